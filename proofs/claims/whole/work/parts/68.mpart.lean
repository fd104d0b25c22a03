/-! The model reads a part -/
def fIdx (k : Nat) : Nat := if 3 ≤ k then 9 + k - 3 else 2 + k
def fcL (ts : List Tok) : Nat → Option Nat
  | 0 => none
  | n + 1 => if isWd (wdL.getD (fIdx n) []) ts then some n else fcL ts n
theorem fcL_8 (ts : List Tok) : fcL ts 8 = fctS ts := by
  unfold fctS
  simp only [fcL]
  have e0 : wdL.getD (fIdx 0) [] = wTrunk := rfl
  have e1 : wdL.getD (fIdx 1) [] = wBath := rfl
  have e2 : wdL.getD (fIdx 2) [] = wIll := rfl
  have e3 : wdL.getD (fIdx 3) [] = wHere := rfl
  have e4 : wdL.getD (fIdx 4) [] = wGap := rfl
  have e5 : wdL.getD (fIdx 5) [] = wFloors := rfl
  have e6 : wdL.getD (fIdx 6) [] = wStove := rfl
  have e7 : wdL.getD (fIdx 7) [] = wMoved := rfl
  rw [e0, e1, e2, e3, e4, e5, e6, e7]
  unfold isWd
  generalize (hd ts).2.2 = w
  by_cases k : (hd ts).1 = 1
  · rw [decide_eq_true k]
    simp only [Bool.true_and]
    by_cases c0 : w = wTrunk
    · subst c0; decide
    · by_cases c1 : w = wBath
      · subst c1; decide
      · by_cases c2 : w = wIll
        · subst c2; decide
        · by_cases c3 : w = wHere
          · subst c3; decide
          · by_cases c4 : w = wGap
            · subst c4; decide
            · by_cases c5 : w = wFloors
              · subst c5; decide
              · by_cases c6 : w = wStove
                · subst c6; decide
                · by_cases c7 : w = wMoved
                  · subst c7; decide
                  · simp only [c0, c1, c2, c3, c4, c5, c6, c7, decide_false, Bool.false_eq_true, if_false]
  · rw [decide_eq_false k]
    simp only [Bool.false_and, Bool.false_eq_true, if_false]
theorem l2i (a : Nat) : Int64.toInt32 (Int64.ofNat a) = Int32.ofNat a := by
  apply bv_ext
  intro i hi
  rw [bv_n]
  show (BitVec.signExtend 32 (BitVec.ofNat 64 a)).getLsbD i = _
  have : i < 64 := by omega
  rw [BitVec.getLsbD_signExtend, BitVec.getLsbD_ofNat]
  simp [hi, this]
theorem fct_b {ts : List Tok} : ∀ g, fctS ts = some g → g < 2147483648 := fun g hg => by
  have := (fct_k hg).2
  omega
/-- a part can begin here -/
def strt (ts : List Tok) : Bool := isWd wNot ts || isSg 40 ts || (atomS ts).isSome
theorem strt_f {ts : List Tok} : strt ts = (decide ((fctS ts).isSome = true) || decide ((hd ts).1 = 2) || isSg 40 ts || isWd wNot ts) := by
  unfold strt atomS
  by_cases k : (hd ts).1 = 2
  · rw [if_pos k]
    simp [k]
  · rw [if_neg k]
    cases hf : fctS ts with
    | none => simp [k, Bool.or_comm]
    | some x => simp
section MPart
variable {N : Nat} {h : PH} {Fa Ft Fs Fp Fk : Nat → Int32 → PH → Option PH}
theorem m_part32 (hF : 80 + 25 ≤ h.length) (hN : 2000 ≤ N) {TS ts : List Tok} {M : OD} (hP : PM TS ts M) {d : Int32} : b_X12_takePart N Fa Ft Fs Fp Fk 80 d (pt sX12 80 M h) = if strt ts then f_X12_takePart_113 N Fa Ft Fs Fp Fk 80 d (eB (decide ((hd ts).1 = 2))) (eO (fctS ts)) (pt sX12 80 M h) else f_X12_takePart_123 N Fa Ft Fs Fp Fk 80 d (eB (decide ((hd ts).1 = 2))) (eO (fctS ts)) (pt sX12 80 (si M 8 (Int32.ofNat (flt 1 ts))) h) := by
  obtain ⟨x1, x2, x3, x4⟩ := hP.hx
  have q4 := hP.2.2.2.1
  have q5 := hP.2.2.2.2.1
  have q6 := hP.2.2.2.2.2.1
  have hp := hP.2.1.hd.1
  have k4 := hp.1
  have e4 := x4.1
  have key : ∀ n j m, j + n = 8 → n < m → gi (fun zk zs => f_X12_takePart_32 N Fa Ft Fs Fp Fk zk zs.1 zs.2.1 zs.2.2.1 zs.2.2.2.1 zs.2.2.2.2.1 zs.2.2.2.2.2) m (80, d, eB (decide ((hd ts).1 = 2)), eO (fcL ts j), Int32.ofNat j, pt sX12 80 M h) = if strt ts then f_X12_takePart_113 N Fa Ft Fs Fp Fk 80 d (eB (decide ((hd ts).1 = 2))) (eO (fctS ts)) (pt sX12 80 M h) else f_X12_takePart_123 N Fa Ft Fs Fp Fk 80 d (eB (decide ((hd ts).1 = 2))) (eO (fctS ts)) (pt sX12 80 (si M 8 (Int32.ofNat (flt 1 ts))) h) := by
    intro n
    induction n with
    | zero =>
      intro j m hj hm
      obtain ⟨m, rfl⟩ : ∃ k, m = k + 1 := ⟨m - 1, by omega⟩
      rw [gi_1]
      generalize hz : gi _ m = zk
      dsimp only
      have hj : j = 8 := by omega
      subst hj
      rw [fcL_8]
      have s1 : f_X12_isSign N 80 40 (pt sX12 80 M h) = some (eB (isSg 40 ts), pt sX12 80 M h) := m_isSg (N := N) hF hP (s := 40) (by omega)
      have s2 : f_X12_isWord N 80 6 (pt sX12 80 M h) = some (eB (isWd wNot ts), pt sX12 80 M h) := m_isWd (N := N) hF hP (k := 6) (by omega)
      have w : f_X12_wrong N 80 1 (pt sX12 80 M h) = _ := (m_wrong (N := N) hF hP (k := 1) (by omega) (by omega)).1
      have ge := eO_ge (fct_b (ts := ts))
      rw [strt_f]
      generalize h113 : f_X12_takePart_113 N Fa Ft Fs Fp Fk = f113
      generalize h123 : f_X12_takePart_123 N Fa Ft Fs Fp Fk = f123
      unfold f_X12_takePart_32
      rw [h113, h123]
      cases hf : fctS ts with
      | some k =>
        rw [hf] at ge
        simp (disch := first | (with_reducible assumption) | (simp only [oi_si, oi_sl, oi_sa, oi_sm, oi_sv, oi_sq, ol_si, ol_sl, ol_sa, ol_sm, ol_sv, ol_sq, oa_si, oa_sl, oa_sa, oa_sm, oa_sv, oa_sq, om_si, om_sl, om_sa, om_sm, om_sv, om_sq, ov_si, ov_sl, ov_sa, ov_sm, ov_sv, ov_sq, oq_si, oq_sl, oq_sa, oq_sm, oq_sv, oq_sq, Nat.reduceEqDiff, ↓reduceIte]; done) | omega | (exact ixn (by omega) (by omega)) | (exact ixl (by decide) (by decide)) | (simp only [pt_len, pl, z0, z1, z2, z3, z4, z5, z6, z7, z8, z9, z10, z11, z12]; omega)) only [↓gb_m, ↓gc_m, ↓gl_s, ↓gg_m, gb_s, gc_s, gg_t, gqm_0, gqm_1, pt_pt, sa_sa, sm_sm, si_si, qk12, qg12_0, qs12_0, qg12_1, qg12_2, qs12_2, qg12_3, qs12_3, qg12_4, qg12_5, qg12_6, qg12_7, qs12_7, qg12_8, qs12_8, qg12_9, qg12_10, qg12_11, qg12_12, qg12_13, qs12_13, qg12_14, qg12_15, qg12_16, qg12_17, qg12_18, qs12_18, qg12_19, qg12_20, qg12_21, qg12_22, qg12_23, qs12_23, qg12_24, qs12_24, qg12_25, qs12_25, qg12_26, qs12_26, qg12_27, qs12_27, qg12_28, qs12_28, qg12_29, qg12_30, qs12_30, qg12_31, qg12_32, qg12_33, qg12_34, qg12_35, qg12_36, qs12_36, qg12_37, qs12_37, qg12_38, qs12_38, qg12_39, qs12_39, qg12_40, qs12_40, qg12_41, qg12_42, qs12_42, qg12_43, qs12_43, qg12_44, qs12_44, qg12_45, qs12_45, qg12_46, qs12_46, qg12_47, qa12_1, qe12_1, ql12_1, qa12_4, qe12_4, ql12_4, qa12_5, qe12_5, ql12_5, qa12_6, qe12_6, ql12_6, qa12_9, qe12_9, ql12_9, qa12_10, qe12_10, ql12_10, qa12_11, qe12_11, ql12_11, qa12_12, qe12_12, ql12_12, qa12_14, qe12_14, ql12_14, qa12_15, qe12_15, ql12_15, qa12_16, qe12_16, ql12_16, qa12_17, qe12_17, ql12_17, qa12_19, qe12_19, ql12_19, qa12_20, qe12_20, ql12_20, qa12_21, qe12_21, ql12_21, qa12_22, qe12_22, ql12_22, qa12_29, qe12_29, ql12_29, qa12_31, qe12_31, ql12_31, qa12_32, qe12_32, ql12_32, qa12_33, qe12_33, ql12_33, qa12_34, qe12_34, ql12_34, qa12_35, qe12_35, ql12_35, qa12_41, qe12_41, ql12_41, qa12_47, qe12_47, ql12_47, oi_si, oi_sl, oi_sa, oi_sm, oi_sv, oi_sq, ol_si, ol_sl, ol_sa, ol_sm, ol_sv, ol_sq, oa_si, oa_sl, oa_sa, oa_sm, oa_sv, oa_sq, om_si, om_sl, om_sa, om_sm, om_sv, om_sq, ov_si, ov_sl, ov_sa, ov_sm, ov_sv, ov_sq, oq_si, oq_sl, oq_sa, oq_sm, oq_sv, oq_sq, Nat.reduceEqDiff, ↓reduceIte, n_add, n_addl, n_ladd, n_add1, n_mul, n_lmul, n_mull, n_sub, n_subl, n_subm, n_lt, n_le, n_eq, n_ltl, n_llt, n_lel, n_lle, n_eql, n_leq, n_m1, n_m1l, n_lt0, n_ge0, i_okc, i_okl, if_true, if_false, not_true, not_false, Nat.not_lt_zero, Nat.zero_le, Nat.le_refl, ge, ne_eq, reduceCtorEq, not_false_eq_true, Option.isSome_some, decide_true, Bool.true_or]
      | none =>
        rw [hf] at ge
        by_cases k2 : (hd ts).1 = 2
        · simp (disch := first | (with_reducible assumption) | (simp only [oi_si, oi_sl, oi_sa, oi_sm, oi_sv, oi_sq, ol_si, ol_sl, ol_sa, ol_sm, ol_sv, ol_sq, oa_si, oa_sl, oa_sa, oa_sm, oa_sv, oa_sq, om_si, om_sl, om_sa, om_sm, om_sv, om_sq, ov_si, ov_sl, ov_sa, ov_sm, ov_sv, ov_sq, oq_si, oq_sl, oq_sa, oq_sm, oq_sv, oq_sq, Nat.reduceEqDiff, ↓reduceIte]; done) | omega | (exact ixn (by omega) (by omega)) | (exact ixl (by decide) (by decide)) | (simp only [pt_len, pl, z0, z1, z2, z3, z4, z5, z6, z7, z8, z9, z10, z11, z12]; omega)) only [↓gb_m, ↓gc_m, ↓gl_s, ↓gg_m, gb_s, gc_s, gg_t, gqm_0, gqm_1, pt_pt, sa_sa, sm_sm, si_si, qk12, qg12_0, qs12_0, qg12_1, qg12_2, qs12_2, qg12_3, qs12_3, qg12_4, qg12_5, qg12_6, qg12_7, qs12_7, qg12_8, qs12_8, qg12_9, qg12_10, qg12_11, qg12_12, qg12_13, qs12_13, qg12_14, qg12_15, qg12_16, qg12_17, qg12_18, qs12_18, qg12_19, qg12_20, qg12_21, qg12_22, qg12_23, qs12_23, qg12_24, qs12_24, qg12_25, qs12_25, qg12_26, qs12_26, qg12_27, qs12_27, qg12_28, qs12_28, qg12_29, qg12_30, qs12_30, qg12_31, qg12_32, qg12_33, qg12_34, qg12_35, qg12_36, qs12_36, qg12_37, qs12_37, qg12_38, qs12_38, qg12_39, qs12_39, qg12_40, qs12_40, qg12_41, qg12_42, qs12_42, qg12_43, qs12_43, qg12_44, qs12_44, qg12_45, qs12_45, qg12_46, qs12_46, qg12_47, qa12_1, qe12_1, ql12_1, qa12_4, qe12_4, ql12_4, qa12_5, qe12_5, ql12_5, qa12_6, qe12_6, ql12_6, qa12_9, qe12_9, ql12_9, qa12_10, qe12_10, ql12_10, qa12_11, qe12_11, ql12_11, qa12_12, qe12_12, ql12_12, qa12_14, qe12_14, ql12_14, qa12_15, qe12_15, ql12_15, qa12_16, qe12_16, ql12_16, qa12_17, qe12_17, ql12_17, qa12_19, qe12_19, ql12_19, qa12_20, qe12_20, ql12_20, qa12_21, qe12_21, ql12_21, qa12_22, qe12_22, ql12_22, qa12_29, qe12_29, ql12_29, qa12_31, qe12_31, ql12_31, qa12_32, qe12_32, ql12_32, qa12_33, qe12_33, ql12_33, qa12_34, qe12_34, ql12_34, qa12_35, qe12_35, ql12_35, qa12_41, qe12_41, ql12_41, qa12_47, qe12_47, ql12_47, oi_si, oi_sl, oi_sa, oi_sm, oi_sv, oi_sq, ol_si, ol_sl, ol_sa, ol_sm, ol_sv, ol_sq, oa_si, oa_sl, oa_sa, oa_sm, oa_sv, oa_sq, om_si, om_sl, om_sa, om_sm, om_sv, om_sq, ov_si, ov_sl, ov_sa, ov_sm, ov_sv, ov_sq, oq_si, oq_sl, oq_sa, oq_sm, oq_sv, oq_sq, Nat.reduceEqDiff, ↓reduceIte, n_add, n_addl, n_ladd, n_add1, n_mul, n_lmul, n_mull, n_sub, n_subl, n_subm, n_lt, n_le, n_eq, n_ltl, n_llt, n_lel, n_lle, n_eql, n_leq, n_m1, n_m1l, n_lt0, n_ge0, i_okc, i_okl, if_true, if_false, not_true, not_false, Nat.not_lt_zero, Nat.zero_le, Nat.le_refl, ge, ne_eq, not_true, k2, decide_true, eB0, Bool.true_eq_false, Option.isSome_none, Bool.false_eq_true, decide_false, Bool.false_or, Bool.true_or]
        · cases c1 : isSg 40 ts with
          | true =>
            rw [c1] at s1
            simp (disch := first | (with_reducible assumption) | (simp only [oi_si, oi_sl, oi_sa, oi_sm, oi_sv, oi_sq, ol_si, ol_sl, ol_sa, ol_sm, ol_sv, ol_sq, oa_si, oa_sl, oa_sa, oa_sm, oa_sv, oa_sq, om_si, om_sl, om_sa, om_sm, om_sv, om_sq, ov_si, ov_sl, ov_sa, ov_sm, ov_sv, ov_sq, oq_si, oq_sl, oq_sa, oq_sm, oq_sv, oq_sq, Nat.reduceEqDiff, ↓reduceIte]; done) | omega | (exact ixn (by omega) (by omega)) | (exact ixl (by decide) (by decide)) | (simp only [pt_len, pl, z0, z1, z2, z3, z4, z5, z6, z7, z8, z9, z10, z11, z12]; omega)) only [↓gb_m, ↓gc_m, ↓gl_s, ↓gg_m, gb_s, gc_s, gg_t, gqm_0, gqm_1, pt_pt, sa_sa, sm_sm, si_si, qk12, qg12_0, qs12_0, qg12_1, qg12_2, qs12_2, qg12_3, qs12_3, qg12_4, qg12_5, qg12_6, qg12_7, qs12_7, qg12_8, qs12_8, qg12_9, qg12_10, qg12_11, qg12_12, qg12_13, qs12_13, qg12_14, qg12_15, qg12_16, qg12_17, qg12_18, qs12_18, qg12_19, qg12_20, qg12_21, qg12_22, qg12_23, qs12_23, qg12_24, qs12_24, qg12_25, qs12_25, qg12_26, qs12_26, qg12_27, qs12_27, qg12_28, qs12_28, qg12_29, qg12_30, qs12_30, qg12_31, qg12_32, qg12_33, qg12_34, qg12_35, qg12_36, qs12_36, qg12_37, qs12_37, qg12_38, qs12_38, qg12_39, qs12_39, qg12_40, qs12_40, qg12_41, qg12_42, qs12_42, qg12_43, qs12_43, qg12_44, qs12_44, qg12_45, qs12_45, qg12_46, qs12_46, qg12_47, qa12_1, qe12_1, ql12_1, qa12_4, qe12_4, ql12_4, qa12_5, qe12_5, ql12_5, qa12_6, qe12_6, ql12_6, qa12_9, qe12_9, ql12_9, qa12_10, qe12_10, ql12_10, qa12_11, qe12_11, ql12_11, qa12_12, qe12_12, ql12_12, qa12_14, qe12_14, ql12_14, qa12_15, qe12_15, ql12_15, qa12_16, qe12_16, ql12_16, qa12_17, qe12_17, ql12_17, qa12_19, qe12_19, ql12_19, qa12_20, qe12_20, ql12_20, qa12_21, qe12_21, ql12_21, qa12_22, qe12_22, ql12_22, qa12_29, qe12_29, ql12_29, qa12_31, qe12_31, ql12_31, qa12_32, qe12_32, ql12_32, qa12_33, qe12_33, ql12_33, qa12_34, qe12_34, ql12_34, qa12_35, qe12_35, ql12_35, qa12_41, qe12_41, ql12_41, qa12_47, qe12_47, ql12_47, oi_si, oi_sl, oi_sa, oi_sm, oi_sv, oi_sq, ol_si, ol_sl, ol_sa, ol_sm, ol_sv, ol_sq, oa_si, oa_sl, oa_sa, oa_sm, oa_sv, oa_sq, om_si, om_sl, om_sa, om_sm, om_sv, om_sq, ov_si, ov_sl, ov_sa, ov_sm, ov_sv, ov_sq, oq_si, oq_sl, oq_sa, oq_sm, oq_sv, oq_sq, Nat.reduceEqDiff, ↓reduceIte, n_add, n_addl, n_ladd, n_add1, n_mul, n_lmul, n_mull, n_sub, n_subl, n_subm, n_lt, n_le, n_eq, n_ltl, n_llt, n_lel, n_lle, n_eql, n_leq, n_m1, n_m1l, n_lt0, n_ge0, i_okc, i_okl, if_true, if_false, not_true, not_false, Nat.not_lt_zero, Nat.zero_le, Nat.le_refl, ge, ne_eq, not_true, k2, decide_false, s1, eB0, Bool.true_eq_false, Option.isSome_none, Bool.false_eq_true, Bool.false_or, Bool.true_or]
          | false =>
            rw [c1] at s1
            cases c2 : isWd wNot ts with
            | true =>
              rw [c2] at s2
              simp (disch := first | (with_reducible assumption) | (simp only [oi_si, oi_sl, oi_sa, oi_sm, oi_sv, oi_sq, ol_si, ol_sl, ol_sa, ol_sm, ol_sv, ol_sq, oa_si, oa_sl, oa_sa, oa_sm, oa_sv, oa_sq, om_si, om_sl, om_sa, om_sm, om_sv, om_sq, ov_si, ov_sl, ov_sa, ov_sm, ov_sv, ov_sq, oq_si, oq_sl, oq_sa, oq_sm, oq_sv, oq_sq, Nat.reduceEqDiff, ↓reduceIte]; done) | omega | (exact ixn (by omega) (by omega)) | (exact ixl (by decide) (by decide)) | (simp only [pt_len, pl, z0, z1, z2, z3, z4, z5, z6, z7, z8, z9, z10, z11, z12]; omega)) only [↓gb_m, ↓gc_m, ↓gl_s, ↓gg_m, gb_s, gc_s, gg_t, gqm_0, gqm_1, pt_pt, sa_sa, sm_sm, si_si, qk12, qg12_0, qs12_0, qg12_1, qg12_2, qs12_2, qg12_3, qs12_3, qg12_4, qg12_5, qg12_6, qg12_7, qs12_7, qg12_8, qs12_8, qg12_9, qg12_10, qg12_11, qg12_12, qg12_13, qs12_13, qg12_14, qg12_15, qg12_16, qg12_17, qg12_18, qs12_18, qg12_19, qg12_20, qg12_21, qg12_22, qg12_23, qs12_23, qg12_24, qs12_24, qg12_25, qs12_25, qg12_26, qs12_26, qg12_27, qs12_27, qg12_28, qs12_28, qg12_29, qg12_30, qs12_30, qg12_31, qg12_32, qg12_33, qg12_34, qg12_35, qg12_36, qs12_36, qg12_37, qs12_37, qg12_38, qs12_38, qg12_39, qs12_39, qg12_40, qs12_40, qg12_41, qg12_42, qs12_42, qg12_43, qs12_43, qg12_44, qs12_44, qg12_45, qs12_45, qg12_46, qs12_46, qg12_47, qa12_1, qe12_1, ql12_1, qa12_4, qe12_4, ql12_4, qa12_5, qe12_5, ql12_5, qa12_6, qe12_6, ql12_6, qa12_9, qe12_9, ql12_9, qa12_10, qe12_10, ql12_10, qa12_11, qe12_11, ql12_11, qa12_12, qe12_12, ql12_12, qa12_14, qe12_14, ql12_14, qa12_15, qe12_15, ql12_15, qa12_16, qe12_16, ql12_16, qa12_17, qe12_17, ql12_17, qa12_19, qe12_19, ql12_19, qa12_20, qe12_20, ql12_20, qa12_21, qe12_21, ql12_21, qa12_22, qe12_22, ql12_22, qa12_29, qe12_29, ql12_29, qa12_31, qe12_31, ql12_31, qa12_32, qe12_32, ql12_32, qa12_33, qe12_33, ql12_33, qa12_34, qe12_34, ql12_34, qa12_35, qe12_35, ql12_35, qa12_41, qe12_41, ql12_41, qa12_47, qe12_47, ql12_47, oi_si, oi_sl, oi_sa, oi_sm, oi_sv, oi_sq, ol_si, ol_sl, ol_sa, ol_sm, ol_sv, ol_sq, oa_si, oa_sl, oa_sa, oa_sm, oa_sv, oa_sq, om_si, om_sl, om_sa, om_sm, om_sv, om_sq, ov_si, ov_sl, ov_sa, ov_sm, ov_sv, ov_sq, oq_si, oq_sl, oq_sa, oq_sm, oq_sv, oq_sq, Nat.reduceEqDiff, ↓reduceIte, n_add, n_addl, n_ladd, n_add1, n_mul, n_lmul, n_mull, n_sub, n_subl, n_subm, n_lt, n_le, n_eq, n_ltl, n_llt, n_lel, n_lle, n_eql, n_leq, n_m1, n_m1l, n_lt0, n_ge0, i_okc, i_okl, if_true, if_false, not_true, not_false, Nat.not_lt_zero, Nat.zero_le, Nat.le_refl, ge, ne_eq, not_true, k2, decide_false, s1, s2, eB0, Bool.true_eq_false, Option.isSome_none, Bool.false_eq_true, Bool.false_or]
            | false =>
              rw [c2] at s2
              simp (disch := first | (with_reducible assumption) | (simp only [oi_si, oi_sl, oi_sa, oi_sm, oi_sv, oi_sq, ol_si, ol_sl, ol_sa, ol_sm, ol_sv, ol_sq, oa_si, oa_sl, oa_sa, oa_sm, oa_sv, oa_sq, om_si, om_sl, om_sa, om_sm, om_sv, om_sq, ov_si, ov_sl, ov_sa, ov_sm, ov_sv, ov_sq, oq_si, oq_sl, oq_sa, oq_sm, oq_sv, oq_sq, Nat.reduceEqDiff, ↓reduceIte]; done) | omega | (exact ixn (by omega) (by omega)) | (exact ixl (by decide) (by decide)) | (simp only [pt_len, pl, z0, z1, z2, z3, z4, z5, z6, z7, z8, z9, z10, z11, z12]; omega)) only [↓gb_m, ↓gc_m, ↓gl_s, ↓gg_m, gb_s, gc_s, gg_t, gqm_0, gqm_1, pt_pt, sa_sa, sm_sm, si_si, qk12, qg12_0, qs12_0, qg12_1, qg12_2, qs12_2, qg12_3, qs12_3, qg12_4, qg12_5, qg12_6, qg12_7, qs12_7, qg12_8, qs12_8, qg12_9, qg12_10, qg12_11, qg12_12, qg12_13, qs12_13, qg12_14, qg12_15, qg12_16, qg12_17, qg12_18, qs12_18, qg12_19, qg12_20, qg12_21, qg12_22, qg12_23, qs12_23, qg12_24, qs12_24, qg12_25, qs12_25, qg12_26, qs12_26, qg12_27, qs12_27, qg12_28, qs12_28, qg12_29, qg12_30, qs12_30, qg12_31, qg12_32, qg12_33, qg12_34, qg12_35, qg12_36, qs12_36, qg12_37, qs12_37, qg12_38, qs12_38, qg12_39, qs12_39, qg12_40, qs12_40, qg12_41, qg12_42, qs12_42, qg12_43, qs12_43, qg12_44, qs12_44, qg12_45, qs12_45, qg12_46, qs12_46, qg12_47, qa12_1, qe12_1, ql12_1, qa12_4, qe12_4, ql12_4, qa12_5, qe12_5, ql12_5, qa12_6, qe12_6, ql12_6, qa12_9, qe12_9, ql12_9, qa12_10, qe12_10, ql12_10, qa12_11, qe12_11, ql12_11, qa12_12, qe12_12, ql12_12, qa12_14, qe12_14, ql12_14, qa12_15, qe12_15, ql12_15, qa12_16, qe12_16, ql12_16, qa12_17, qe12_17, ql12_17, qa12_19, qe12_19, ql12_19, qa12_20, qe12_20, ql12_20, qa12_21, qe12_21, ql12_21, qa12_22, qe12_22, ql12_22, qa12_29, qe12_29, ql12_29, qa12_31, qe12_31, ql12_31, qa12_32, qe12_32, ql12_32, qa12_33, qe12_33, ql12_33, qa12_34, qe12_34, ql12_34, qa12_35, qe12_35, ql12_35, qa12_41, qe12_41, ql12_41, qa12_47, qe12_47, ql12_47, oi_si, oi_sl, oi_sa, oi_sm, oi_sv, oi_sq, ol_si, ol_sl, ol_sa, ol_sm, ol_sv, ol_sq, oa_si, oa_sl, oa_sa, oa_sm, oa_sv, oa_sq, om_si, om_sl, om_sa, om_sm, om_sv, om_sq, ov_si, ov_sl, ov_sa, ov_sm, ov_sv, ov_sq, oq_si, oq_sl, oq_sa, oq_sm, oq_sv, oq_sq, Nat.reduceEqDiff, ↓reduceIte, n_add, n_addl, n_ladd, n_add1, n_mul, n_lmul, n_mull, n_sub, n_subl, n_subm, n_lt, n_le, n_eq, n_ltl, n_llt, n_lel, n_lle, n_eql, n_leq, n_m1, n_m1l, n_lt0, n_ge0, i_okc, i_okl, if_true, if_false, not_true, not_false, Nat.not_lt_zero, Nat.zero_le, Nat.le_refl, ge, ne_eq, not_true, k2, decide_false, s1, s2, w, eB0, Bool.true_eq_false, Option.isSome_none, Bool.false_eq_true, Bool.false_or]
    | succ n ih =>
      intro j m hj hm
      obtain ⟨m, rfl⟩ : ∃ k, m = k + 1 := ⟨m - 1, by omega⟩
      rw [gi_1]
      generalize hz : gi _ m = zk
      dsimp only
      have b2 : (8 ≤ j) = False := propext ⟨fun h => by omega, False.elim⟩
      have ih' := ih (j + 1) m (by omega) (by omega)
      rw [hz] at ih'
      rw [← ih']
      have s2 := m_isWd (N := N) hF hP (k := fIdx j) (by unfold fIdx; split <;> omega)
      unfold f_X12_takePart_32 f_X12_takePart_60 f_X12_takePart_72
      simp only [fcL]
      unfold fIdx at s2 ⊢
      by_cases c3 : 3 ≤ j
      · rw [if_pos c3] at s2
        simp only [if_pos c3]
        cases c : isWd (wdL.getD (9 + j - 3) []) ts with
        | true =>
          rw [c] at s2
          simp (disch := first | (with_reducible assumption) | (simp only [oi_si, oi_sl, oi_sa, oi_sm, oi_sv, oi_sq, ol_si, ol_sl, ol_sa, ol_sm, ol_sv, ol_sq, oa_si, oa_sl, oa_sa, oa_sm, oa_sv, oa_sq, om_si, om_sl, om_sa, om_sm, om_sv, om_sq, ov_si, ov_sl, ov_sa, ov_sm, ov_sv, ov_sq, oq_si, oq_sl, oq_sa, oq_sm, oq_sv, oq_sq, Nat.reduceEqDiff, ↓reduceIte]; done) | omega | (exact ixn (by omega) (by omega)) | (exact ixl (by decide) (by decide)) | (simp only [pt_len, pl, z0, z1, z2, z3, z4, z5, z6, z7, z8, z9, z10, z11, z12]; omega)) only [↓gb_m, ↓gc_m, ↓gl_s, ↓gg_m, gb_s, gc_s, gg_t, gqm_0, gqm_1, pt_pt, sa_sa, sm_sm, si_si, qk12, qg12_0, qs12_0, qg12_1, qg12_2, qs12_2, qg12_3, qs12_3, qg12_4, qg12_5, qg12_6, qg12_7, qs12_7, qg12_8, qs12_8, qg12_9, qg12_10, qg12_11, qg12_12, qg12_13, qs12_13, qg12_14, qg12_15, qg12_16, qg12_17, qg12_18, qs12_18, qg12_19, qg12_20, qg12_21, qg12_22, qg12_23, qs12_23, qg12_24, qs12_24, qg12_25, qs12_25, qg12_26, qs12_26, qg12_27, qs12_27, qg12_28, qs12_28, qg12_29, qg12_30, qs12_30, qg12_31, qg12_32, qg12_33, qg12_34, qg12_35, qg12_36, qs12_36, qg12_37, qs12_37, qg12_38, qs12_38, qg12_39, qs12_39, qg12_40, qs12_40, qg12_41, qg12_42, qs12_42, qg12_43, qs12_43, qg12_44, qs12_44, qg12_45, qs12_45, qg12_46, qs12_46, qg12_47, qa12_1, qe12_1, ql12_1, qa12_4, qe12_4, ql12_4, qa12_5, qe12_5, ql12_5, qa12_6, qe12_6, ql12_6, qa12_9, qe12_9, ql12_9, qa12_10, qe12_10, ql12_10, qa12_11, qe12_11, ql12_11, qa12_12, qe12_12, ql12_12, qa12_14, qe12_14, ql12_14, qa12_15, qe12_15, ql12_15, qa12_16, qe12_16, ql12_16, qa12_17, qe12_17, ql12_17, qa12_19, qe12_19, ql12_19, qa12_20, qe12_20, ql12_20, qa12_21, qe12_21, ql12_21, qa12_22, qe12_22, ql12_22, qa12_29, qe12_29, ql12_29, qa12_31, qe12_31, ql12_31, qa12_32, qe12_32, ql12_32, qa12_33, qe12_33, ql12_33, qa12_34, qe12_34, ql12_34, qa12_35, qe12_35, ql12_35, qa12_41, qe12_41, ql12_41, qa12_47, qe12_47, ql12_47, oi_si, oi_sl, oi_sa, oi_sm, oi_sv, oi_sq, ol_si, ol_sl, ol_sa, ol_sm, ol_sv, ol_sq, oa_si, oa_sl, oa_sa, oa_sm, oa_sv, oa_sq, om_si, om_sl, om_sa, om_sm, om_sv, om_sq, ov_si, ov_sl, ov_sa, ov_sm, ov_sv, ov_sq, oq_si, oq_sl, oq_sa, oq_sm, oq_sv, oq_sq, Nat.reduceEqDiff, ↓reduceIte, n_add, n_addl, n_ladd, n_add1, n_mul, n_lmul, n_mull, n_sub, n_subl, n_subm, n_lt, n_le, n_eq, n_ltl, n_llt, n_lel, n_lle, n_eql, n_leq, n_m1, n_m1l, n_lt0, n_ge0, i_okc, i_okl, if_true, if_false, not_true, not_false, Nat.not_lt_zero, Nat.zero_le, b2, c3, s2, eB0, Bool.true_eq_false]
          rfl
        | false =>
          rw [c] at s2
          simp (disch := first | (with_reducible assumption) | (simp only [oi_si, oi_sl, oi_sa, oi_sm, oi_sv, oi_sq, ol_si, ol_sl, ol_sa, ol_sm, ol_sv, ol_sq, oa_si, oa_sl, oa_sa, oa_sm, oa_sv, oa_sq, om_si, om_sl, om_sa, om_sm, om_sv, om_sq, ov_si, ov_sl, ov_sa, ov_sm, ov_sv, ov_sq, oq_si, oq_sl, oq_sa, oq_sm, oq_sv, oq_sq, Nat.reduceEqDiff, ↓reduceIte]; done) | omega | (exact ixn (by omega) (by omega)) | (exact ixl (by decide) (by decide)) | (simp only [pt_len, pl, z0, z1, z2, z3, z4, z5, z6, z7, z8, z9, z10, z11, z12]; omega)) only [↓gb_m, ↓gc_m, ↓gl_s, ↓gg_m, gb_s, gc_s, gg_t, gqm_0, gqm_1, pt_pt, sa_sa, sm_sm, si_si, qk12, qg12_0, qs12_0, qg12_1, qg12_2, qs12_2, qg12_3, qs12_3, qg12_4, qg12_5, qg12_6, qg12_7, qs12_7, qg12_8, qs12_8, qg12_9, qg12_10, qg12_11, qg12_12, qg12_13, qs12_13, qg12_14, qg12_15, qg12_16, qg12_17, qg12_18, qs12_18, qg12_19, qg12_20, qg12_21, qg12_22, qg12_23, qs12_23, qg12_24, qs12_24, qg12_25, qs12_25, qg12_26, qs12_26, qg12_27, qs12_27, qg12_28, qs12_28, qg12_29, qg12_30, qs12_30, qg12_31, qg12_32, qg12_33, qg12_34, qg12_35, qg12_36, qs12_36, qg12_37, qs12_37, qg12_38, qs12_38, qg12_39, qs12_39, qg12_40, qs12_40, qg12_41, qg12_42, qs12_42, qg12_43, qs12_43, qg12_44, qs12_44, qg12_45, qs12_45, qg12_46, qs12_46, qg12_47, qa12_1, qe12_1, ql12_1, qa12_4, qe12_4, ql12_4, qa12_5, qe12_5, ql12_5, qa12_6, qe12_6, ql12_6, qa12_9, qe12_9, ql12_9, qa12_10, qe12_10, ql12_10, qa12_11, qe12_11, ql12_11, qa12_12, qe12_12, ql12_12, qa12_14, qe12_14, ql12_14, qa12_15, qe12_15, ql12_15, qa12_16, qe12_16, ql12_16, qa12_17, qe12_17, ql12_17, qa12_19, qe12_19, ql12_19, qa12_20, qe12_20, ql12_20, qa12_21, qe12_21, ql12_21, qa12_22, qe12_22, ql12_22, qa12_29, qe12_29, ql12_29, qa12_31, qe12_31, ql12_31, qa12_32, qe12_32, ql12_32, qa12_33, qe12_33, ql12_33, qa12_34, qe12_34, ql12_34, qa12_35, qe12_35, ql12_35, qa12_41, qe12_41, ql12_41, qa12_47, qe12_47, ql12_47, oi_si, oi_sl, oi_sa, oi_sm, oi_sv, oi_sq, ol_si, ol_sl, ol_sa, ol_sm, ol_sv, ol_sq, oa_si, oa_sl, oa_sa, oa_sm, oa_sv, oa_sq, om_si, om_sl, om_sa, om_sm, om_sv, om_sq, ov_si, ov_sl, ov_sa, ov_sm, ov_sv, ov_sq, oq_si, oq_sl, oq_sa, oq_sm, oq_sv, oq_sq, Nat.reduceEqDiff, ↓reduceIte, n_add, n_addl, n_ladd, n_add1, n_mul, n_lmul, n_mull, n_sub, n_subl, n_subm, n_lt, n_le, n_eq, n_ltl, n_llt, n_lel, n_lle, n_eql, n_leq, n_m1, n_m1l, n_lt0, n_ge0, i_okc, i_okl, if_true, if_false, not_true, not_false, Nat.not_lt_zero, Nat.zero_le, b2, c3, s2, eB0, Bool.false_eq_true]
      · rw [if_neg c3] at s2
        simp only [if_neg c3]
        cases c : isWd (wdL.getD (2 + j) []) ts with
        | true =>
          rw [c] at s2
          simp (disch := first | (with_reducible assumption) | (simp only [oi_si, oi_sl, oi_sa, oi_sm, oi_sv, oi_sq, ol_si, ol_sl, ol_sa, ol_sm, ol_sv, ol_sq, oa_si, oa_sl, oa_sa, oa_sm, oa_sv, oa_sq, om_si, om_sl, om_sa, om_sm, om_sv, om_sq, ov_si, ov_sl, ov_sa, ov_sm, ov_sv, ov_sq, oq_si, oq_sl, oq_sa, oq_sm, oq_sv, oq_sq, Nat.reduceEqDiff, ↓reduceIte]; done) | omega | (exact ixn (by omega) (by omega)) | (exact ixl (by decide) (by decide)) | (simp only [pt_len, pl, z0, z1, z2, z3, z4, z5, z6, z7, z8, z9, z10, z11, z12]; omega)) only [↓gb_m, ↓gc_m, ↓gl_s, ↓gg_m, gb_s, gc_s, gg_t, gqm_0, gqm_1, pt_pt, sa_sa, sm_sm, si_si, qk12, qg12_0, qs12_0, qg12_1, qg12_2, qs12_2, qg12_3, qs12_3, qg12_4, qg12_5, qg12_6, qg12_7, qs12_7, qg12_8, qs12_8, qg12_9, qg12_10, qg12_11, qg12_12, qg12_13, qs12_13, qg12_14, qg12_15, qg12_16, qg12_17, qg12_18, qs12_18, qg12_19, qg12_20, qg12_21, qg12_22, qg12_23, qs12_23, qg12_24, qs12_24, qg12_25, qs12_25, qg12_26, qs12_26, qg12_27, qs12_27, qg12_28, qs12_28, qg12_29, qg12_30, qs12_30, qg12_31, qg12_32, qg12_33, qg12_34, qg12_35, qg12_36, qs12_36, qg12_37, qs12_37, qg12_38, qs12_38, qg12_39, qs12_39, qg12_40, qs12_40, qg12_41, qg12_42, qs12_42, qg12_43, qs12_43, qg12_44, qs12_44, qg12_45, qs12_45, qg12_46, qs12_46, qg12_47, qa12_1, qe12_1, ql12_1, qa12_4, qe12_4, ql12_4, qa12_5, qe12_5, ql12_5, qa12_6, qe12_6, ql12_6, qa12_9, qe12_9, ql12_9, qa12_10, qe12_10, ql12_10, qa12_11, qe12_11, ql12_11, qa12_12, qe12_12, ql12_12, qa12_14, qe12_14, ql12_14, qa12_15, qe12_15, ql12_15, qa12_16, qe12_16, ql12_16, qa12_17, qe12_17, ql12_17, qa12_19, qe12_19, ql12_19, qa12_20, qe12_20, ql12_20, qa12_21, qe12_21, ql12_21, qa12_22, qe12_22, ql12_22, qa12_29, qe12_29, ql12_29, qa12_31, qe12_31, ql12_31, qa12_32, qe12_32, ql12_32, qa12_33, qe12_33, ql12_33, qa12_34, qe12_34, ql12_34, qa12_35, qe12_35, ql12_35, qa12_41, qe12_41, ql12_41, qa12_47, qe12_47, ql12_47, oi_si, oi_sl, oi_sa, oi_sm, oi_sv, oi_sq, ol_si, ol_sl, ol_sa, ol_sm, ol_sv, ol_sq, oa_si, oa_sl, oa_sa, oa_sm, oa_sv, oa_sq, om_si, om_sl, om_sa, om_sm, om_sv, om_sq, ov_si, ov_sl, ov_sa, ov_sm, ov_sv, ov_sq, oq_si, oq_sl, oq_sa, oq_sm, oq_sv, oq_sq, Nat.reduceEqDiff, ↓reduceIte, n_add, n_addl, n_ladd, n_add1, n_mul, n_lmul, n_mull, n_sub, n_subl, n_subm, n_lt, n_le, n_eq, n_ltl, n_llt, n_lel, n_lle, n_eql, n_leq, n_m1, n_m1l, n_lt0, n_ge0, i_okc, i_okl, if_true, if_false, not_true, not_false, Nat.not_lt_zero, Nat.zero_le, b2, c3, s2, eB0, Bool.true_eq_false]
          rfl
        | false =>
          rw [c] at s2
          simp (disch := first | (with_reducible assumption) | (simp only [oi_si, oi_sl, oi_sa, oi_sm, oi_sv, oi_sq, ol_si, ol_sl, ol_sa, ol_sm, ol_sv, ol_sq, oa_si, oa_sl, oa_sa, oa_sm, oa_sv, oa_sq, om_si, om_sl, om_sa, om_sm, om_sv, om_sq, ov_si, ov_sl, ov_sa, ov_sm, ov_sv, ov_sq, oq_si, oq_sl, oq_sa, oq_sm, oq_sv, oq_sq, Nat.reduceEqDiff, ↓reduceIte]; done) | omega | (exact ixn (by omega) (by omega)) | (exact ixl (by decide) (by decide)) | (simp only [pt_len, pl, z0, z1, z2, z3, z4, z5, z6, z7, z8, z9, z10, z11, z12]; omega)) only [↓gb_m, ↓gc_m, ↓gl_s, ↓gg_m, gb_s, gc_s, gg_t, gqm_0, gqm_1, pt_pt, sa_sa, sm_sm, si_si, qk12, qg12_0, qs12_0, qg12_1, qg12_2, qs12_2, qg12_3, qs12_3, qg12_4, qg12_5, qg12_6, qg12_7, qs12_7, qg12_8, qs12_8, qg12_9, qg12_10, qg12_11, qg12_12, qg12_13, qs12_13, qg12_14, qg12_15, qg12_16, qg12_17, qg12_18, qs12_18, qg12_19, qg12_20, qg12_21, qg12_22, qg12_23, qs12_23, qg12_24, qs12_24, qg12_25, qs12_25, qg12_26, qs12_26, qg12_27, qs12_27, qg12_28, qs12_28, qg12_29, qg12_30, qs12_30, qg12_31, qg12_32, qg12_33, qg12_34, qg12_35, qg12_36, qs12_36, qg12_37, qs12_37, qg12_38, qs12_38, qg12_39, qs12_39, qg12_40, qs12_40, qg12_41, qg12_42, qs12_42, qg12_43, qs12_43, qg12_44, qs12_44, qg12_45, qs12_45, qg12_46, qs12_46, qg12_47, qa12_1, qe12_1, ql12_1, qa12_4, qe12_4, ql12_4, qa12_5, qe12_5, ql12_5, qa12_6, qe12_6, ql12_6, qa12_9, qe12_9, ql12_9, qa12_10, qe12_10, ql12_10, qa12_11, qe12_11, ql12_11, qa12_12, qe12_12, ql12_12, qa12_14, qe12_14, ql12_14, qa12_15, qe12_15, ql12_15, qa12_16, qe12_16, ql12_16, qa12_17, qe12_17, ql12_17, qa12_19, qe12_19, ql12_19, qa12_20, qe12_20, ql12_20, qa12_21, qe12_21, ql12_21, qa12_22, qe12_22, ql12_22, qa12_29, qe12_29, ql12_29, qa12_31, qe12_31, ql12_31, qa12_32, qe12_32, ql12_32, qa12_33, qe12_33, ql12_33, qa12_34, qe12_34, ql12_34, qa12_35, qe12_35, ql12_35, qa12_41, qe12_41, ql12_41, qa12_47, qe12_47, ql12_47, oi_si, oi_sl, oi_sa, oi_sm, oi_sv, oi_sq, ol_si, ol_sl, ol_sa, ol_sm, ol_sv, ol_sq, oa_si, oa_sl, oa_sa, oa_sm, oa_sv, oa_sq, om_si, om_sl, om_sa, om_sm, om_sv, om_sq, ov_si, ov_sl, ov_sa, ov_sm, ov_sv, ov_sq, oq_si, oq_sl, oq_sa, oq_sm, oq_sv, oq_sq, Nat.reduceEqDiff, ↓reduceIte, n_add, n_addl, n_ladd, n_add1, n_mul, n_lmul, n_mull, n_sub, n_subl, n_subm, n_lt, n_le, n_eq, n_ltl, n_llt, n_lel, n_lle, n_eql, n_leq, n_m1, n_m1l, n_lt0, n_ge0, i_okc, i_okl, if_true, if_false, not_true, not_false, Nat.not_lt_zero, Nat.zero_le, b2, c3, s2, eB0, Bool.false_eq_true]
  have k0 := key 8 0 N (by omega) (by omega)
  rw [← k0]
  have z0 : ((0 : Int32) ≤ 0) = True := propext ⟨fun _ => trivial, fun _ => by decide⟩
  generalize h32 : f_X12_takePart_32 N Fa Ft Fs Fp Fk = f32
  unfold b_X12_takePart f_X12_takePart_26
  rw [h32]
  by_cases k2 : (hd ts).1 = 2
  · simp (disch := first | (with_reducible assumption) | (simp only [oi_si, oi_sl, oi_sa, oi_sm, oi_sv, oi_sq, ol_si, ol_sl, ol_sa, ol_sm, ol_sv, ol_sq, oa_si, oa_sl, oa_sa, oa_sm, oa_sv, oa_sq, om_si, om_sl, om_sa, om_sm, om_sv, om_sq, ov_si, ov_sl, ov_sa, ov_sm, ov_sv, ov_sq, oq_si, oq_sl, oq_sa, oq_sm, oq_sv, oq_sq, Nat.reduceEqDiff, ↓reduceIte]; done) | omega | (exact ixn (by omega) (by omega)) | (exact ixl (by decide) (by decide)) | (simp only [pt_len, pl, z0, z1, z2, z3, z4, z5, z6, z7, z8, z9, z10, z11, z12]; omega)) only [↓gb_m, ↓gc_m, ↓gl_s, ↓gg_m, gb_s, gc_s, gg_t, gqm_0, gqm_1, pt_pt, sa_sa, sm_sm, si_si, qk12, qg12_0, qs12_0, qg12_1, qg12_2, qs12_2, qg12_3, qs12_3, qg12_4, qg12_5, qg12_6, qg12_7, qs12_7, qg12_8, qs12_8, qg12_9, qg12_10, qg12_11, qg12_12, qg12_13, qs12_13, qg12_14, qg12_15, qg12_16, qg12_17, qg12_18, qs12_18, qg12_19, qg12_20, qg12_21, qg12_22, qg12_23, qs12_23, qg12_24, qs12_24, qg12_25, qs12_25, qg12_26, qs12_26, qg12_27, qs12_27, qg12_28, qs12_28, qg12_29, qg12_30, qs12_30, qg12_31, qg12_32, qg12_33, qg12_34, qg12_35, qg12_36, qs12_36, qg12_37, qs12_37, qg12_38, qs12_38, qg12_39, qs12_39, qg12_40, qs12_40, qg12_41, qg12_42, qs12_42, qg12_43, qs12_43, qg12_44, qs12_44, qg12_45, qs12_45, qg12_46, qs12_46, qg12_47, qa12_1, qe12_1, ql12_1, qa12_4, qe12_4, ql12_4, qa12_5, qe12_5, ql12_5, qa12_6, qe12_6, ql12_6, qa12_9, qe12_9, ql12_9, qa12_10, qe12_10, ql12_10, qa12_11, qe12_11, ql12_11, qa12_12, qe12_12, ql12_12, qa12_14, qe12_14, ql12_14, qa12_15, qe12_15, ql12_15, qa12_16, qe12_16, ql12_16, qa12_17, qe12_17, ql12_17, qa12_19, qe12_19, ql12_19, qa12_20, qe12_20, ql12_20, qa12_21, qe12_21, ql12_21, qa12_22, qe12_22, ql12_22, qa12_29, qe12_29, ql12_29, qa12_31, qe12_31, ql12_31, qa12_32, qe12_32, ql12_32, qa12_33, qe12_33, ql12_33, qa12_34, qe12_34, ql12_34, qa12_35, qe12_35, ql12_35, qa12_41, qe12_41, ql12_41, qa12_47, qe12_47, ql12_47, oi_si, oi_sl, oi_sa, oi_sm, oi_sv, oi_sq, ol_si, ol_sl, ol_sa, ol_sm, ol_sv, ol_sq, oa_si, oa_sl, oa_sa, oa_sm, oa_sv, oa_sq, om_si, om_sl, om_sa, om_sm, om_sv, om_sq, ov_si, ov_sl, ov_sa, ov_sm, ov_sv, ov_sq, oq_si, oq_sl, oq_sa, oq_sm, oq_sv, oq_sq, Nat.reduceEqDiff, ↓reduceIte, n_add, n_addl, n_ladd, n_add1, n_mul, n_lmul, n_mull, n_sub, n_subl, n_subm, n_lt, n_le, n_eq, n_ltl, n_llt, n_lel, n_lle, n_eql, n_leq, n_m1, n_m1l, n_lt0, n_ge0, i_okc, i_okl, if_true, if_false, not_true, not_false, Nat.not_lt_zero, Nat.zero_le, q5, z0, q4, e4, k2, decide_true]
    rfl
  · simp (disch := first | (with_reducible assumption) | (simp only [oi_si, oi_sl, oi_sa, oi_sm, oi_sv, oi_sq, ol_si, ol_sl, ol_sa, ol_sm, ol_sv, ol_sq, oa_si, oa_sl, oa_sa, oa_sm, oa_sv, oa_sq, om_si, om_sl, om_sa, om_sm, om_sv, om_sq, ov_si, ov_sl, ov_sa, ov_sm, ov_sv, ov_sq, oq_si, oq_sl, oq_sa, oq_sm, oq_sv, oq_sq, Nat.reduceEqDiff, ↓reduceIte]; done) | omega | (exact ixn (by omega) (by omega)) | (exact ixl (by decide) (by decide)) | (simp only [pt_len, pl, z0, z1, z2, z3, z4, z5, z6, z7, z8, z9, z10, z11, z12]; omega)) only [↓gb_m, ↓gc_m, ↓gl_s, ↓gg_m, gb_s, gc_s, gg_t, gqm_0, gqm_1, pt_pt, sa_sa, sm_sm, si_si, qk12, qg12_0, qs12_0, qg12_1, qg12_2, qs12_2, qg12_3, qs12_3, qg12_4, qg12_5, qg12_6, qg12_7, qs12_7, qg12_8, qs12_8, qg12_9, qg12_10, qg12_11, qg12_12, qg12_13, qs12_13, qg12_14, qg12_15, qg12_16, qg12_17, qg12_18, qs12_18, qg12_19, qg12_20, qg12_21, qg12_22, qg12_23, qs12_23, qg12_24, qs12_24, qg12_25, qs12_25, qg12_26, qs12_26, qg12_27, qs12_27, qg12_28, qs12_28, qg12_29, qg12_30, qs12_30, qg12_31, qg12_32, qg12_33, qg12_34, qg12_35, qg12_36, qs12_36, qg12_37, qs12_37, qg12_38, qs12_38, qg12_39, qs12_39, qg12_40, qs12_40, qg12_41, qg12_42, qs12_42, qg12_43, qs12_43, qg12_44, qs12_44, qg12_45, qs12_45, qg12_46, qs12_46, qg12_47, qa12_1, qe12_1, ql12_1, qa12_4, qe12_4, ql12_4, qa12_5, qe12_5, ql12_5, qa12_6, qe12_6, ql12_6, qa12_9, qe12_9, ql12_9, qa12_10, qe12_10, ql12_10, qa12_11, qe12_11, ql12_11, qa12_12, qe12_12, ql12_12, qa12_14, qe12_14, ql12_14, qa12_15, qe12_15, ql12_15, qa12_16, qe12_16, ql12_16, qa12_17, qe12_17, ql12_17, qa12_19, qe12_19, ql12_19, qa12_20, qe12_20, ql12_20, qa12_21, qe12_21, ql12_21, qa12_22, qe12_22, ql12_22, qa12_29, qe12_29, ql12_29, qa12_31, qe12_31, ql12_31, qa12_32, qe12_32, ql12_32, qa12_33, qe12_33, ql12_33, qa12_34, qe12_34, ql12_34, qa12_35, qe12_35, ql12_35, qa12_41, qe12_41, ql12_41, qa12_47, qe12_47, ql12_47, oi_si, oi_sl, oi_sa, oi_sm, oi_sv, oi_sq, ol_si, ol_sl, ol_sa, ol_sm, ol_sv, ol_sq, oa_si, oa_sl, oa_sa, oa_sm, oa_sv, oa_sq, om_si, om_sl, om_sa, om_sm, om_sv, om_sq, ov_si, ov_sl, ov_sa, ov_sm, ov_sv, ov_sq, oq_si, oq_sl, oq_sa, oq_sm, oq_sv, oq_sq, Nat.reduceEqDiff, ↓reduceIte, n_add, n_addl, n_ladd, n_add1, n_mul, n_lmul, n_mull, n_sub, n_subl, n_subm, n_lt, n_le, n_eq, n_ltl, n_llt, n_lel, n_lle, n_eql, n_leq, n_m1, n_m1l, n_lt0, n_ge0, i_okc, i_okl, if_true, if_false, not_true, not_false, Nat.not_lt_zero, Nat.zero_le, q5, z0, q4, e4, k2, decide_false]
    rfl
/-- with a fault nothing more is done -/
theorem m_part123F (hF : 80 + 25 ≤ h.length) {f : Nat} {M : OD} (q : PF f M) {d nf fa : Int32} : f_X12_takePart_123 N Fa Ft Fs Fp Fk 80 d nf fa (pt sX12 80 M h) = some (pt sX12 80 M h) := by
  have := q.n0.2
  unfold f_X12_takePart_123
  simp (disch := first | (with_reducible assumption) | (simp only [oi_si, oi_sl, oi_sa, oi_sm, oi_sv, oi_sq, ol_si, ol_sl, ol_sa, ol_sm, ol_sv, ol_sq, oa_si, oa_sl, oa_sa, oa_sm, oa_sv, oa_sq, om_si, om_sl, om_sa, om_sm, om_sv, om_sq, ov_si, ov_sl, ov_sa, ov_sm, ov_sv, ov_sq, oq_si, oq_sl, oq_sa, oq_sm, oq_sv, oq_sq, Nat.reduceEqDiff, ↓reduceIte]; done) | omega | (exact ixn (by omega) (by omega)) | (exact ixl (by decide) (by decide)) | (simp only [pt_len, pl, z0, z1, z2, z3, z4, z5, z6, z7, z8, z9, z10, z11, z12]; omega)) only [↓gb_m, ↓gc_m, ↓gl_s, ↓gg_m, gb_s, gc_s, gg_t, gqm_0, gqm_1, pt_pt, sa_sa, sm_sm, si_si, qk12, qg12_0, qs12_0, qg12_1, qg12_2, qs12_2, qg12_3, qs12_3, qg12_4, qg12_5, qg12_6, qg12_7, qs12_7, qg12_8, qs12_8, qg12_9, qg12_10, qg12_11, qg12_12, qg12_13, qs12_13, qg12_14, qg12_15, qg12_16, qg12_17, qg12_18, qs12_18, qg12_19, qg12_20, qg12_21, qg12_22, qg12_23, qs12_23, qg12_24, qs12_24, qg12_25, qs12_25, qg12_26, qs12_26, qg12_27, qs12_27, qg12_28, qs12_28, qg12_29, qg12_30, qs12_30, qg12_31, qg12_32, qg12_33, qg12_34, qg12_35, qg12_36, qs12_36, qg12_37, qs12_37, qg12_38, qs12_38, qg12_39, qs12_39, qg12_40, qs12_40, qg12_41, qg12_42, qs12_42, qg12_43, qs12_43, qg12_44, qs12_44, qg12_45, qs12_45, qg12_46, qs12_46, qg12_47, qa12_1, qe12_1, ql12_1, qa12_4, qe12_4, ql12_4, qa12_5, qe12_5, ql12_5, qa12_6, qe12_6, ql12_6, qa12_9, qe12_9, ql12_9, qa12_10, qe12_10, ql12_10, qa12_11, qe12_11, ql12_11, qa12_12, qe12_12, ql12_12, qa12_14, qe12_14, ql12_14, qa12_15, qe12_15, ql12_15, qa12_16, qe12_16, ql12_16, qa12_17, qe12_17, ql12_17, qa12_19, qe12_19, ql12_19, qa12_20, qe12_20, ql12_20, qa12_21, qe12_21, ql12_21, qa12_22, qe12_22, ql12_22, qa12_29, qe12_29, ql12_29, qa12_31, qe12_31, ql12_31, qa12_32, qe12_32, ql12_32, qa12_33, qe12_33, ql12_33, qa12_34, qe12_34, ql12_34, qa12_35, qe12_35, ql12_35, qa12_41, qe12_41, ql12_41, qa12_47, qe12_47, ql12_47, oi_si, oi_sl, oi_sa, oi_sm, oi_sv, oi_sq, ol_si, ol_sl, ol_sa, ol_sm, ol_sv, ol_sq, oa_si, oa_sl, oa_sa, oa_sm, oa_sv, oa_sq, om_si, om_sl, om_sa, om_sm, om_sv, om_sq, ov_si, ov_sl, ov_sa, ov_sm, ov_sv, ov_sq, oq_si, oq_sl, oq_sa, oq_sm, oq_sv, oq_sq, Nat.reduceEqDiff, ↓reduceIte, n_add, n_addl, n_ladd, n_add1, n_mul, n_lmul, n_mull, n_sub, n_subl, n_subm, n_lt, n_le, n_eq, n_ltl, n_llt, n_lel, n_lle, n_eql, n_leq, n_m1, n_m1l, n_lt0, n_ge0, i_okc, i_okl, if_true, if_false, not_true, not_false, Nat.not_lt_zero, Nat.zero_le, this]
theorem m_part0 (hF : 80 + 25 ≤ h.length) (hN : 2000 ≤ N) : PC h (b_X12_takePart N Fa Ft Fs Fp Fk) (pPart 0) 5 := by
  intro TS ts M cs hP hC hb
  have l1 := hP.hx.2.1
  obtain ⟨w1, w2⟩ := m_wrong (N := N) hF hP (k := 1) (by omega) (by omega)
  obtain ⟨w3, w4⟩ := m_wrong (N := N) hF hP (k := 5) (by omega) (by omega)
  have kk : ∀ v, Keep [7, 8] M (si M 8 v) := fun v => k_si (by decide)
  rw [m_part32 hF hN hP]
  unfold pPart
  show ∃ M', _ ∧ _ ∧ PO TS ts cs (if strt ts = true then .inl (flt 5 ts) else .inl (flt 1 ts)) M'
  cases c : strt ts with
  | true =>
    rw [if_pos rfl, if_pos rfl]
    refine ⟨si M 8 (Int32.ofNat (flt 5 ts)), ?_, KP.of (kk _), w4, cs.length, ?_, by omega⟩
    · unfold f_X12_takePart_113
      rw [if_pos (show Int32.ofNat 5 = 5 from rfl)]
      have w3 : f_X12_wrong N 80 5 (pt sX12 80 M h) = _ := w3
      rw [w3]
      simp (disch := first | (with_reducible assumption) | (simp only [oi_si, oi_sl, oi_sa, oi_sm, oi_sv, oi_sq, ol_si, ol_sl, ol_sa, ol_sm, ol_sv, ol_sq, oa_si, oa_sl, oa_sa, oa_sm, oa_sv, oa_sq, om_si, om_sl, om_sa, om_sm, om_sv, om_sq, ov_si, ov_sl, ov_sa, ov_sm, ov_sv, ov_sq, oq_si, oq_sl, oq_sa, oq_sm, oq_sv, oq_sq, Nat.reduceEqDiff, ↓reduceIte]; done) | omega | (exact ixn (by omega) (by omega)) | (exact ixl (by decide) (by decide)) | (simp only [pt_len, pl, z0, z1, z2, z3, z4, z5, z6, z7, z8, z9, z10, z11, z12]; omega)) only [gg_t, gb_s, qk12]
      exact m_part123F hF w4
    · rw [oi_si, if_neg (by decide)]
      exact hC.1
  | false =>
    rw [if_neg (by simp), if_neg (by simp)]
    refine ⟨si M 8 (Int32.ofNat (flt 1 ts)), m_part123F hF w2, KP.of (kk _), w2, cs.length, ?_, by omega⟩
    rw [oi_si, if_neg (by decide)]
    exact hC.1
theorem m_partS (hF : 80 + 25 ≤ h.length) (hN : 2000 ≤ N) {k d ga gp : Nat} (hd5 : d < 5) (hga : Good ga (pAll (pPart k))) (hgp : Good gp (pPart k)) (ha : PC h Fa (pAll (pPart k)) (d + 1)) (hk : PC h Fk (pPart k) (d + 1)) : PC h (b_X12_takePart N Fa Ft Fs Fp Fk) (pPart (k + 1)) d := by
  intro TS ts M cs hP hC hb
  have l1 := hP.hx.2.1
  have x4 := hP.hx.2.2.2
  have q4 := hP.2.2.2.1
  have q5 := hP.2.2.2.2.1
  have q6 := hP.2.2.2.2.2.1
  have hxl := hP.hx.1
  obtain ⟨w1, w2⟩ := m_wrong (N := N) hF hP (k := 1) (by omega) (by omega)
  have kk : ∀ v, Keep [7, 8] M (si M 8 v) := fun v => k_si (by decide)
  have kk7 : Keep [7, 8] M (si M 7 (Int32.ofNat (TS.length - ts.length + 1))) := k_si (by decide)
  rw [m_part32 hF hN hP]
  have d5 : (d = 5) = False := propext ⟨fun h => by omega, False.elim⟩
  have z0 : ((0 : Int32) ≤ 0) = True := propext ⟨fun _ => trivial, fun _ => by decide⟩
  have hw : f_X12_hasWord N 80 6 (pt sX12 80 M h) = some (eB (isWd wNot ts), pt sX12 80 (if isWd wNot ts then si M 7 (Int32.ofNat (TS.length - ts.length + 1)) else M) h) := m_hasWd (N := N) hF hP (k := 6) (by omega)
  have hs : f_X12_hasSign N 80 40 (pt sX12 80 M h) = some (eB (isSg 40 ts), pt sX12 80 (if isSg 40 ts then si M 7 (Int32.ofNat (TS.length - ts.length + 1)) else M) h) := m_hasSg (N := N) hF hP (s := 40) (by omega)
  cases c : strt ts with
  | false =>
    rw [if_neg (by simp)]
    have cn : isWd wNot ts = false ∧ isSg 40 ts = false ∧ atomS ts = none := by
      unfold strt at c
      simp only [Bool.or_eq_false_iff] at c
      refine ⟨c.1.1, c.1.2, ?_⟩
      cases z : atomS ts with
      | none => rfl
      | some y => rw [z] at c; cases c.2
    refine ⟨si M 8 (Int32.ofNat (flt 1 ts)), m_part123F hF w2, KP.of (kk _), ?_⟩
    unfold pPart
    rw [if_neg (by rw [cn.1]; simp), if_neg (by rw [cn.2.1]; simp), cn.2.2]
    refine ⟨w2, cs.length, ?_, by omega⟩
    rw [oi_si, if_neg (by decide)]
    exact hC.1
  | true =>
    rw [if_pos rfl]
    unfold f_X12_takePart_113 f_X12_takePart_123
    unfold pPart
    cases cn : isWd wNot ts with
    | true =>
      rw [cn] at hw
      simp only [if_true] at hw ⊢
      have k1 : (hd ts).1 ≠ 0 := by rw [(isWd_k cn).1]; decide
      obtain ⟨x, ex, _, hv1, _⟩ := hP.2.1.tl k1
      have lt : ts.length = ts.tail.length + 1 := by
        conv => lhs; rw [ex]
        rfl
      obtain ⟨M2, f1, f2, f3⟩ := hk TS ts.tail _ cs (hP.adv k1) (hC.kp kk7) (by omega)
      cases hu : pPart k ts.tail with
      | inl f =>
        rw [hu] at f3
        obtain ⟨p1, j, p2, p3⟩ := f3
        obtain ⟨M3, em, em2, em3, em4⟩ := m_emitF (N := N) hF p1 p2 (by omega) 3 0
        refine ⟨M3, ?_, (KP.of kk7).tr (f2.tr em2), em3, j + 1, em4, by omega⟩
        unfold f_X12_takePart_222
        simp (disch := first | (with_reducible assumption) | (simp only [oi_si, oi_sl, oi_sa, oi_sm, oi_sv, oi_sq, ol_si, ol_sl, ol_sa, ol_sm, ol_sv, ol_sq, oa_si, oa_sl, oa_sa, oa_sm, oa_sv, oa_sq, om_si, om_sl, om_sa, om_sm, om_sv, om_sq, ov_si, ov_sl, ov_sa, ov_sm, ov_sv, ov_sq, oq_si, oq_sl, oq_sa, oq_sm, oq_sv, oq_sq, Nat.reduceEqDiff, ↓reduceIte]; done) | omega | (exact ixn (by omega) (by omega)) | (exact ixl (by decide) (by decide)) | (simp only [pt_len, pl, z0, z1, z2, z3, z4, z5, z6, z7, z8, z9, z10, z11, z12]; omega)) only [↓gb_m, ↓gc_m, ↓gl_s, ↓gg_m, gb_s, gc_s, gg_t, gqm_0, gqm_1, pt_pt, sa_sa, sm_sm, si_si, qk12, qg12_0, qs12_0, qg12_1, qg12_2, qs12_2, qg12_3, qs12_3, qg12_4, qg12_5, qg12_6, qg12_7, qs12_7, qg12_8, qs12_8, qg12_9, qg12_10, qg12_11, qg12_12, qg12_13, qs12_13, qg12_14, qg12_15, qg12_16, qg12_17, qg12_18, qs12_18, qg12_19, qg12_20, qg12_21, qg12_22, qg12_23, qs12_23, qg12_24, qs12_24, qg12_25, qs12_25, qg12_26, qs12_26, qg12_27, qs12_27, qg12_28, qs12_28, qg12_29, qg12_30, qs12_30, qg12_31, qg12_32, qg12_33, qg12_34, qg12_35, qg12_36, qs12_36, qg12_37, qs12_37, qg12_38, qs12_38, qg12_39, qs12_39, qg12_40, qs12_40, qg12_41, qg12_42, qs12_42, qg12_43, qs12_43, qg12_44, qs12_44, qg12_45, qs12_45, qg12_46, qs12_46, qg12_47, qa12_1, qe12_1, ql12_1, qa12_4, qe12_4, ql12_4, qa12_5, qe12_5, ql12_5, qa12_6, qe12_6, ql12_6, qa12_9, qe12_9, ql12_9, qa12_10, qe12_10, ql12_10, qa12_11, qe12_11, ql12_11, qa12_12, qe12_12, ql12_12, qa12_14, qe12_14, ql12_14, qa12_15, qe12_15, ql12_15, qa12_16, qe12_16, ql12_16, qa12_17, qe12_17, ql12_17, qa12_19, qe12_19, ql12_19, qa12_20, qe12_20, ql12_20, qa12_21, qe12_21, ql12_21, qa12_22, qe12_22, ql12_22, qa12_29, qe12_29, ql12_29, qa12_31, qe12_31, ql12_31, qa12_32, qe12_32, ql12_32, qa12_33, qe12_33, ql12_33, qa12_34, qe12_34, ql12_34, qa12_35, qe12_35, ql12_35, qa12_41, qe12_41, ql12_41, qa12_47, qe12_47, ql12_47, oi_si, oi_sl, oi_sa, oi_sm, oi_sv, oi_sq, ol_si, ol_sl, ol_sa, ol_sm, ol_sv, ol_sq, oa_si, oa_sl, oa_sa, oa_sm, oa_sv, oa_sq, om_si, om_sl, om_sa, om_sm, om_sv, om_sq, ov_si, ov_sl, ov_sa, ov_sm, ov_sv, ov_sq, oq_si, oq_sl, oq_sa, oq_sm, oq_sv, oq_sq, Nat.reduceEqDiff, ↓reduceIte, n_add, n_addl, n_ladd, n_add1, n_mul, n_lmul, n_mull, n_sub, n_subl, n_subm, n_lt, n_le, n_eq, n_ltl, n_llt, n_lel, n_lle, n_eql, n_leq, n_m1, n_m1l, n_lt0, n_ge0, i_okc, i_okl, if_true, if_false, not_true, not_false, Nat.not_lt_zero, Nat.zero_le, d5, q5, z0, hw, eB0, Bool.true_eq_false, f1, em]
      | inr y =>
        rw [hu] at f3
        obtain ⟨p1, p2⟩ := f3
        obtain ⟨a1, a2, a3⟩ := hgp ts.tail hv1 y.1 y.2 hu
        have lc : (cs ++ y.1).length < 1100 := by rw [List.length_append]; omega
        obtain ⟨M3, em, em2, em3, em4⟩ := m_emit (N := N) hF p2 lc 3 0
        have em : f_X12_emit N 80 3 0 (pt sX12 80 M2 h) = _ := em
        refine ⟨M3, ?_, (KP.of kk7).tr (f2.tr em2), p1.kp em3 (by decide), ?_⟩
        · unfold f_X12_takePart_222
          simp (disch := first | (with_reducible assumption) | (simp only [oi_si, oi_sl, oi_sa, oi_sm, oi_sv, oi_sq, ol_si, ol_sl, ol_sa, ol_sm, ol_sv, ol_sq, oa_si, oa_sl, oa_sa, oa_sm, oa_sv, oa_sq, om_si, om_sl, om_sa, om_sm, om_sv, om_sq, ov_si, ov_sl, ov_sa, ov_sm, ov_sv, ov_sq, oq_si, oq_sl, oq_sa, oq_sm, oq_sv, oq_sq, Nat.reduceEqDiff, ↓reduceIte]; done) | omega | (exact ixn (by omega) (by omega)) | (exact ixl (by decide) (by decide)) | (simp only [pt_len, pl, z0, z1, z2, z3, z4, z5, z6, z7, z8, z9, z10, z11, z12]; omega)) only [↓gb_m, ↓gc_m, ↓gl_s, ↓gg_m, gb_s, gc_s, gg_t, gqm_0, gqm_1, pt_pt, sa_sa, sm_sm, si_si, qk12, qg12_0, qs12_0, qg12_1, qg12_2, qs12_2, qg12_3, qs12_3, qg12_4, qg12_5, qg12_6, qg12_7, qs12_7, qg12_8, qs12_8, qg12_9, qg12_10, qg12_11, qg12_12, qg12_13, qs12_13, qg12_14, qg12_15, qg12_16, qg12_17, qg12_18, qs12_18, qg12_19, qg12_20, qg12_21, qg12_22, qg12_23, qs12_23, qg12_24, qs12_24, qg12_25, qs12_25, qg12_26, qs12_26, qg12_27, qs12_27, qg12_28, qs12_28, qg12_29, qg12_30, qs12_30, qg12_31, qg12_32, qg12_33, qg12_34, qg12_35, qg12_36, qs12_36, qg12_37, qs12_37, qg12_38, qs12_38, qg12_39, qs12_39, qg12_40, qs12_40, qg12_41, qg12_42, qs12_42, qg12_43, qs12_43, qg12_44, qs12_44, qg12_45, qs12_45, qg12_46, qs12_46, qg12_47, qa12_1, qe12_1, ql12_1, qa12_4, qe12_4, ql12_4, qa12_5, qe12_5, ql12_5, qa12_6, qe12_6, ql12_6, qa12_9, qe12_9, ql12_9, qa12_10, qe12_10, ql12_10, qa12_11, qe12_11, ql12_11, qa12_12, qe12_12, ql12_12, qa12_14, qe12_14, ql12_14, qa12_15, qe12_15, ql12_15, qa12_16, qe12_16, ql12_16, qa12_17, qe12_17, ql12_17, qa12_19, qe12_19, ql12_19, qa12_20, qe12_20, ql12_20, qa12_21, qe12_21, ql12_21, qa12_22, qe12_22, ql12_22, qa12_29, qe12_29, ql12_29, qa12_31, qe12_31, ql12_31, qa12_32, qe12_32, ql12_32, qa12_33, qe12_33, ql12_33, qa12_34, qe12_34, ql12_34, qa12_35, qe12_35, ql12_35, qa12_41, qe12_41, ql12_41, qa12_47, qe12_47, ql12_47, oi_si, oi_sl, oi_sa, oi_sm, oi_sv, oi_sq, ol_si, ol_sl, ol_sa, ol_sm, ol_sv, ol_sq, oa_si, oa_sl, oa_sa, oa_sm, oa_sv, oa_sq, om_si, om_sl, om_sa, om_sm, om_sv, om_sq, ov_si, ov_sl, ov_sa, ov_sm, ov_sv, ov_sq, oq_si, oq_sl, oq_sa, oq_sm, oq_sv, oq_sq, Nat.reduceEqDiff, ↓reduceIte, n_add, n_addl, n_ladd, n_add1, n_mul, n_lmul, n_mull, n_sub, n_subl, n_subm, n_lt, n_le, n_eq, n_ltl, n_llt, n_lel, n_lle, n_eql, n_leq, n_m1, n_m1l, n_lt0, n_ge0, i_okc, i_okl, if_true, if_false, not_true, not_false, Nat.not_lt_zero, Nat.zero_le, d5, q5, z0, hw, eB0, Bool.true_eq_false, f1, em]
        · rw [List.append_assoc] at em4
          exact em4
    | false =>
      rw [cn] at hw
      simp only [Bool.false_eq_true, if_false] at hw ⊢
      cases cb : isSg 40 ts with
      | true =>
        rw [cb] at hs
        simp only [if_true] at hs ⊢
        have k1 : (hd ts).1 ≠ 0 := by rw [(isSg_k cb).1]; decide
        obtain ⟨x, ex, _, hv1, _⟩ := hP.2.1.tl k1
        have lt : ts.length = ts.tail.length + 1 := by
          conv => lhs; rw [ex]
          rfl
        obtain ⟨M2, f1, f2, f3⟩ := ha TS ts.tail _ cs (hP.adv k1) (hC.kp kk7) (by omega)
        unfold f_X12_takePart_222
        cases hu : pAll (pPart k) ts.tail with
        | inl f =>
          rw [hu] at f3
          obtain ⟨p1, j, p2, p3⟩ := f3
          have tk := m_takeSgF (N := N) hF p1 (k := 41)
          refine ⟨M2, ?_, (KP.of kk7).tr f2, p1, j, p2, by omega⟩
          simp (disch := first | (with_reducible assumption) | (simp only [oi_si, oi_sl, oi_sa, oi_sm, oi_sv, oi_sq, ol_si, ol_sl, ol_sa, ol_sm, ol_sv, ol_sq, oa_si, oa_sl, oa_sa, oa_sm, oa_sv, oa_sq, om_si, om_sl, om_sa, om_sm, om_sv, om_sq, ov_si, ov_sl, ov_sa, ov_sm, ov_sv, ov_sq, oq_si, oq_sl, oq_sa, oq_sm, oq_sv, oq_sq, Nat.reduceEqDiff, ↓reduceIte]; done) | omega | (exact ixn (by omega) (by omega)) | (exact ixl (by decide) (by decide)) | (simp only [pt_len, pl, z0, z1, z2, z3, z4, z5, z6, z7, z8, z9, z10, z11, z12]; omega)) only [↓gb_m, ↓gc_m, ↓gl_s, ↓gg_m, gb_s, gc_s, gg_t, gqm_0, gqm_1, pt_pt, sa_sa, sm_sm, si_si, qk12, qg12_0, qs12_0, qg12_1, qg12_2, qs12_2, qg12_3, qs12_3, qg12_4, qg12_5, qg12_6, qg12_7, qs12_7, qg12_8, qs12_8, qg12_9, qg12_10, qg12_11, qg12_12, qg12_13, qs12_13, qg12_14, qg12_15, qg12_16, qg12_17, qg12_18, qs12_18, qg12_19, qg12_20, qg12_21, qg12_22, qg12_23, qs12_23, qg12_24, qs12_24, qg12_25, qs12_25, qg12_26, qs12_26, qg12_27, qs12_27, qg12_28, qs12_28, qg12_29, qg12_30, qs12_30, qg12_31, qg12_32, qg12_33, qg12_34, qg12_35, qg12_36, qs12_36, qg12_37, qs12_37, qg12_38, qs12_38, qg12_39, qs12_39, qg12_40, qs12_40, qg12_41, qg12_42, qs12_42, qg12_43, qs12_43, qg12_44, qs12_44, qg12_45, qs12_45, qg12_46, qs12_46, qg12_47, qa12_1, qe12_1, ql12_1, qa12_4, qe12_4, ql12_4, qa12_5, qe12_5, ql12_5, qa12_6, qe12_6, ql12_6, qa12_9, qe12_9, ql12_9, qa12_10, qe12_10, ql12_10, qa12_11, qe12_11, ql12_11, qa12_12, qe12_12, ql12_12, qa12_14, qe12_14, ql12_14, qa12_15, qe12_15, ql12_15, qa12_16, qe12_16, ql12_16, qa12_17, qe12_17, ql12_17, qa12_19, qe12_19, ql12_19, qa12_20, qe12_20, ql12_20, qa12_21, qe12_21, ql12_21, qa12_22, qe12_22, ql12_22, qa12_29, qe12_29, ql12_29, qa12_31, qe12_31, ql12_31, qa12_32, qe12_32, ql12_32, qa12_33, qe12_33, ql12_33, qa12_34, qe12_34, ql12_34, qa12_35, qe12_35, ql12_35, qa12_41, qe12_41, ql12_41, qa12_47, qe12_47, ql12_47, oi_si, oi_sl, oi_sa, oi_sm, oi_sv, oi_sq, ol_si, ol_sl, ol_sa, ol_sm, ol_sv, ol_sq, oa_si, oa_sl, oa_sa, oa_sm, oa_sv, oa_sq, om_si, om_sl, om_sa, om_sm, om_sv, om_sq, ov_si, ov_sl, ov_sa, ov_sm, ov_sv, ov_sq, oq_si, oq_sl, oq_sa, oq_sm, oq_sv, oq_sq, Nat.reduceEqDiff, ↓reduceIte, n_add, n_addl, n_ladd, n_add1, n_mul, n_lmul, n_mull, n_sub, n_subl, n_subm, n_lt, n_le, n_eq, n_ltl, n_llt, n_lel, n_lle, n_eql, n_leq, n_m1, n_m1l, n_lt0, n_ge0, i_okc, i_okl, if_true, if_false, not_true, not_false, Nat.not_lt_zero, Nat.zero_le, d5, q5, z0, hw, hs, eB0, Bool.true_eq_false, f1, tk]
        | inr y =>
          rw [hu] at f3
          obtain ⟨p1, p2⟩ := f3
          obtain ⟨a1, a2, a3⟩ := hga ts.tail hv1 y.1 y.2 hu
          have ly := a1.len
          have l2 := p1.hx.2.1
          have tk : f_X12_takeSign N 80 41 (pt sX12 80 M2 h) = _ := m_takeSg (N := N) hF p1 (s := 41) (by omega)
          have kk2 : ∀ v, Keep [7, 8] M2 (si M2 7 v) := fun v => k_si (by decide)
          have kk8 : ∀ v, Keep [7, 8] M2 (si M2 8 v) := fun v => k_si (by decide)
          show ∃ M', _ ∧ _ ∧ PO TS ts cs (if isSg 41 y.2 = true then .inr (y.1, y.2.tail) else .inl (flt 1 y.2)) M'
          cases cc : isSg 41 y.2 with
          | true =>
            rw [cc] at tk
            simp only [if_true] at tk ⊢
            refine ⟨_, ?_, (KP.of kk7).tr (f2.tr (KP.of (kk2 _))), p1.adv (by rw [(isSg_k cc).1]; decide), p2.kp (kk2 _)⟩
            simp (disch := first | (with_reducible assumption) | (simp only [oi_si, oi_sl, oi_sa, oi_sm, oi_sv, oi_sq, ol_si, ol_sl, ol_sa, ol_sm, ol_sv, ol_sq, oa_si, oa_sl, oa_sa, oa_sm, oa_sv, oa_sq, om_si, om_sl, om_sa, om_sm, om_sv, om_sq, ov_si, ov_sl, ov_sa, ov_sm, ov_sv, ov_sq, oq_si, oq_sl, oq_sa, oq_sm, oq_sv, oq_sq, Nat.reduceEqDiff, ↓reduceIte]; done) | omega | (exact ixn (by omega) (by omega)) | (exact ixl (by decide) (by decide)) | (simp only [pt_len, pl, z0, z1, z2, z3, z4, z5, z6, z7, z8, z9, z10, z11, z12]; omega)) only [↓gb_m, ↓gc_m, ↓gl_s, ↓gg_m, gb_s, gc_s, gg_t, gqm_0, gqm_1, pt_pt, sa_sa, sm_sm, si_si, qk12, qg12_0, qs12_0, qg12_1, qg12_2, qs12_2, qg12_3, qs12_3, qg12_4, qg12_5, qg12_6, qg12_7, qs12_7, qg12_8, qs12_8, qg12_9, qg12_10, qg12_11, qg12_12, qg12_13, qs12_13, qg12_14, qg12_15, qg12_16, qg12_17, qg12_18, qs12_18, qg12_19, qg12_20, qg12_21, qg12_22, qg12_23, qs12_23, qg12_24, qs12_24, qg12_25, qs12_25, qg12_26, qs12_26, qg12_27, qs12_27, qg12_28, qs12_28, qg12_29, qg12_30, qs12_30, qg12_31, qg12_32, qg12_33, qg12_34, qg12_35, qg12_36, qs12_36, qg12_37, qs12_37, qg12_38, qs12_38, qg12_39, qs12_39, qg12_40, qs12_40, qg12_41, qg12_42, qs12_42, qg12_43, qs12_43, qg12_44, qs12_44, qg12_45, qs12_45, qg12_46, qs12_46, qg12_47, qa12_1, qe12_1, ql12_1, qa12_4, qe12_4, ql12_4, qa12_5, qe12_5, ql12_5, qa12_6, qe12_6, ql12_6, qa12_9, qe12_9, ql12_9, qa12_10, qe12_10, ql12_10, qa12_11, qe12_11, ql12_11, qa12_12, qe12_12, ql12_12, qa12_14, qe12_14, ql12_14, qa12_15, qe12_15, ql12_15, qa12_16, qe12_16, ql12_16, qa12_17, qe12_17, ql12_17, qa12_19, qe12_19, ql12_19, qa12_20, qe12_20, ql12_20, qa12_21, qe12_21, ql12_21, qa12_22, qe12_22, ql12_22, qa12_29, qe12_29, ql12_29, qa12_31, qe12_31, ql12_31, qa12_32, qe12_32, ql12_32, qa12_33, qe12_33, ql12_33, qa12_34, qe12_34, ql12_34, qa12_35, qe12_35, ql12_35, qa12_41, qe12_41, ql12_41, qa12_47, qe12_47, ql12_47, oi_si, oi_sl, oi_sa, oi_sm, oi_sv, oi_sq, ol_si, ol_sl, ol_sa, ol_sm, ol_sv, ol_sq, oa_si, oa_sl, oa_sa, oa_sm, oa_sv, oa_sq, om_si, om_sl, om_sa, om_sm, om_sv, om_sq, ov_si, ov_sl, ov_sa, ov_sm, ov_sv, ov_sq, oq_si, oq_sl, oq_sa, oq_sm, oq_sv, oq_sq, Nat.reduceEqDiff, ↓reduceIte, n_add, n_addl, n_ladd, n_add1, n_mul, n_lmul, n_mull, n_sub, n_subl, n_subm, n_lt, n_le, n_eq, n_ltl, n_llt, n_lel, n_lle, n_eql, n_leq, n_m1, n_m1l, n_lt0, n_ge0, i_okc, i_okl, if_true, if_false, not_true, not_false, Nat.not_lt_zero, Nat.zero_le, d5, q5, z0, hw, hs, eB0, Bool.true_eq_false, f1, tk]
          | false =>
            rw [cc] at tk
            simp only [Bool.false_eq_true, if_false] at tk ⊢
            obtain ⟨u1, u2⟩ := m_wrong (N := N) hF p1 (k := 1) (by omega) (by omega)
            have ll : (cs ++ y.1).length = cs.length + y.1.length := List.length_append ..
            refine ⟨_, ?_, (KP.of kk7).tr (f2.tr (KP.of (kk8 _))), u2, (cs ++ y.1).length, ?_, by omega⟩
            · simp (disch := first | (with_reducible assumption) | (simp only [oi_si, oi_sl, oi_sa, oi_sm, oi_sv, oi_sq, ol_si, ol_sl, ol_sa, ol_sm, ol_sv, ol_sq, oa_si, oa_sl, oa_sa, oa_sm, oa_sv, oa_sq, om_si, om_sl, om_sa, om_sm, om_sv, om_sq, ov_si, ov_sl, ov_sa, ov_sm, ov_sv, ov_sq, oq_si, oq_sl, oq_sa, oq_sm, oq_sv, oq_sq, Nat.reduceEqDiff, ↓reduceIte]; done) | omega | (exact ixn (by omega) (by omega)) | (exact ixl (by decide) (by decide)) | (simp only [pt_len, pl, z0, z1, z2, z3, z4, z5, z6, z7, z8, z9, z10, z11, z12]; omega)) only [↓gb_m, ↓gc_m, ↓gl_s, ↓gg_m, gb_s, gc_s, gg_t, gqm_0, gqm_1, pt_pt, sa_sa, sm_sm, si_si, qk12, qg12_0, qs12_0, qg12_1, qg12_2, qs12_2, qg12_3, qs12_3, qg12_4, qg12_5, qg12_6, qg12_7, qs12_7, qg12_8, qs12_8, qg12_9, qg12_10, qg12_11, qg12_12, qg12_13, qs12_13, qg12_14, qg12_15, qg12_16, qg12_17, qg12_18, qs12_18, qg12_19, qg12_20, qg12_21, qg12_22, qg12_23, qs12_23, qg12_24, qs12_24, qg12_25, qs12_25, qg12_26, qs12_26, qg12_27, qs12_27, qg12_28, qs12_28, qg12_29, qg12_30, qs12_30, qg12_31, qg12_32, qg12_33, qg12_34, qg12_35, qg12_36, qs12_36, qg12_37, qs12_37, qg12_38, qs12_38, qg12_39, qs12_39, qg12_40, qs12_40, qg12_41, qg12_42, qs12_42, qg12_43, qs12_43, qg12_44, qs12_44, qg12_45, qs12_45, qg12_46, qs12_46, qg12_47, qa12_1, qe12_1, ql12_1, qa12_4, qe12_4, ql12_4, qa12_5, qe12_5, ql12_5, qa12_6, qe12_6, ql12_6, qa12_9, qe12_9, ql12_9, qa12_10, qe12_10, ql12_10, qa12_11, qe12_11, ql12_11, qa12_12, qe12_12, ql12_12, qa12_14, qe12_14, ql12_14, qa12_15, qe12_15, ql12_15, qa12_16, qe12_16, ql12_16, qa12_17, qe12_17, ql12_17, qa12_19, qe12_19, ql12_19, qa12_20, qe12_20, ql12_20, qa12_21, qe12_21, ql12_21, qa12_22, qe12_22, ql12_22, qa12_29, qe12_29, ql12_29, qa12_31, qe12_31, ql12_31, qa12_32, qe12_32, ql12_32, qa12_33, qe12_33, ql12_33, qa12_34, qe12_34, ql12_34, qa12_35, qe12_35, ql12_35, qa12_41, qe12_41, ql12_41, qa12_47, qe12_47, ql12_47, oi_si, oi_sl, oi_sa, oi_sm, oi_sv, oi_sq, ol_si, ol_sl, ol_sa, ol_sm, ol_sv, ol_sq, oa_si, oa_sl, oa_sa, oa_sm, oa_sv, oa_sq, om_si, om_sl, om_sa, om_sm, om_sv, om_sq, ov_si, ov_sl, ov_sa, ov_sm, ov_sv, ov_sq, oq_si, oq_sl, oq_sa, oq_sm, oq_sv, oq_sq, Nat.reduceEqDiff, ↓reduceIte, n_add, n_addl, n_ladd, n_add1, n_mul, n_lmul, n_mull, n_sub, n_subl, n_subm, n_lt, n_le, n_eq, n_ltl, n_llt, n_lel, n_lle, n_eql, n_leq, n_m1, n_m1l, n_lt0, n_ge0, i_okc, i_okl, if_true, if_false, not_true, not_false, Nat.not_lt_zero, Nat.zero_le, d5, q5, z0, hw, hs, eB0, Bool.true_eq_false, f1, tk]
            · rw [oi_si, if_neg (by decide)]
              exact p2.1
      | false =>
        rw [cb] at hs
        simp only [Bool.false_eq_true, if_false] at hs ⊢
        have ca : ∃ y, atomS ts = some y := by
          unfold strt at c
          rw [cn, cb] at c
          cases z : atomS ts with
          | none => rw [z] at c; cases c
          | some y => exact ⟨y, rfl⟩
        obtain ⟨y, hy⟩ := ca
        rw [hy]
        have k1 := (atom_k hP.2.1 hy).1
        have lc : cs.length < 1100 := by omega
        obtain ⟨M3, em, em2, em3, em4⟩ := m_emit (N := N) hF hC lc y.1 y.2
        have hP3 := hP.kp em3 (by decide)
        have q43 := hP3.2.2.2.1
        have kk3 : Keep [7, 8] M3 (si M3 7 (Int32.ofNat (TS.length - ts.length + 1))) := k_si (by decide)
        refine ⟨si M3 7 (Int32.ofNat (TS.length - ts.length + 1)), ?_, em2.tr (KP.of kk3), hP3.adv k1, em4.kp kk3⟩
        unfold atomS at hy
        unfold f_X12_takePart_191 f_X12_takePart_209 f_X12_takePart_222
        by_cases k2 : (hd ts).1 = 2
        · rw [if_pos k2] at hy
          cases hy
          have e6 := x4.2.2.2.1 k2
          have em : f_X12_emit N 80 1 (Int32.ofNat (v10 (hd ts).2.2)) (pt sX12 80 M h) = _ := em
          simp (disch := first | (with_reducible assumption) | (simp only [oi_si, oi_sl, oi_sa, oi_sm, oi_sv, oi_sq, ol_si, ol_sl, ol_sa, ol_sm, ol_sv, ol_sq, oa_si, oa_sl, oa_sa, oa_sm, oa_sv, oa_sq, om_si, om_sl, om_sa, om_sm, om_sv, om_sq, ov_si, ov_sl, ov_sa, ov_sm, ov_sv, ov_sq, oq_si, oq_sl, oq_sa, oq_sm, oq_sv, oq_sq, Nat.reduceEqDiff, ↓reduceIte]; done) | omega | (exact ixn (by omega) (by omega)) | (exact ixl (by decide) (by decide)) | (simp only [pt_len, pl, z0, z1, z2, z3, z4, z5, z6, z7, z8, z9, z10, z11, z12]; omega)) only [↓gb_m, ↓gc_m, ↓gl_s, ↓gg_m, gb_s, gc_s, gg_t, gqm_0, gqm_1, pt_pt, sa_sa, sm_sm, si_si, qk12, qg12_0, qs12_0, qg12_1, qg12_2, qs12_2, qg12_3, qs12_3, qg12_4, qg12_5, qg12_6, qg12_7, qs12_7, qg12_8, qs12_8, qg12_9, qg12_10, qg12_11, qg12_12, qg12_13, qs12_13, qg12_14, qg12_15, qg12_16, qg12_17, qg12_18, qs12_18, qg12_19, qg12_20, qg12_21, qg12_22, qg12_23, qs12_23, qg12_24, qs12_24, qg12_25, qs12_25, qg12_26, qs12_26, qg12_27, qs12_27, qg12_28, qs12_28, qg12_29, qg12_30, qs12_30, qg12_31, qg12_32, qg12_33, qg12_34, qg12_35, qg12_36, qs12_36, qg12_37, qs12_37, qg12_38, qs12_38, qg12_39, qs12_39, qg12_40, qs12_40, qg12_41, qg12_42, qs12_42, qg12_43, qs12_43, qg12_44, qs12_44, qg12_45, qs12_45, qg12_46, qs12_46, qg12_47, qa12_1, qe12_1, ql12_1, qa12_4, qe12_4, ql12_4, qa12_5, qe12_5, ql12_5, qa12_6, qe12_6, ql12_6, qa12_9, qe12_9, ql12_9, qa12_10, qe12_10, ql12_10, qa12_11, qe12_11, ql12_11, qa12_12, qe12_12, ql12_12, qa12_14, qe12_14, ql12_14, qa12_15, qe12_15, ql12_15, qa12_16, qe12_16, ql12_16, qa12_17, qe12_17, ql12_17, qa12_19, qe12_19, ql12_19, qa12_20, qe12_20, ql12_20, qa12_21, qe12_21, ql12_21, qa12_22, qe12_22, ql12_22, qa12_29, qe12_29, ql12_29, qa12_31, qe12_31, ql12_31, qa12_32, qe12_32, ql12_32, qa12_33, qe12_33, ql12_33, qa12_34, qe12_34, ql12_34, qa12_35, qe12_35, ql12_35, qa12_41, qe12_41, ql12_41, qa12_47, qe12_47, ql12_47, oi_si, oi_sl, oi_sa, oi_sm, oi_sv, oi_sq, ol_si, ol_sl, ol_sa, ol_sm, ol_sv, ol_sq, oa_si, oa_sl, oa_sa, oa_sm, oa_sv, oa_sq, om_si, om_sl, om_sa, om_sm, om_sv, om_sq, ov_si, ov_sl, ov_sa, ov_sm, ov_sv, ov_sq, oq_si, oq_sl, oq_sa, oq_sm, oq_sv, oq_sq, Nat.reduceEqDiff, ↓reduceIte, n_add, n_addl, n_ladd, n_add1, n_mul, n_lmul, n_mull, n_sub, n_subl, n_subm, n_lt, n_le, n_eq, n_ltl, n_llt, n_lel, n_lle, n_eql, n_leq, n_m1, n_m1l, n_lt0, n_ge0, i_okc, i_okl, if_true, if_false, not_true, not_false, Nat.not_lt_zero, Nat.zero_le, d5, q5, z0, hw, hs, eB0, Bool.true_eq_false, k2, decide_true, q4, e6, l2i, em, q43]
        · rw [if_neg k2] at hy
          cases hf : fctS ts with
          | none => rw [hf] at hy; cases hy
          | some w =>
            rw [hf] at hy
            cases hy
            have em : f_X12_emit N 80 2 (Int32.ofNat w) (pt sX12 80 M h) = _ := em
            simp (disch := first | (with_reducible assumption) | (simp only [oi_si, oi_sl, oi_sa, oi_sm, oi_sv, oi_sq, ol_si, ol_sl, ol_sa, ol_sm, ol_sv, ol_sq, oa_si, oa_sl, oa_sa, oa_sm, oa_sv, oa_sq, om_si, om_sl, om_sa, om_sm, om_sv, om_sq, ov_si, ov_sl, ov_sa, ov_sm, ov_sv, ov_sq, oq_si, oq_sl, oq_sa, oq_sm, oq_sv, oq_sq, Nat.reduceEqDiff, ↓reduceIte]; done) | omega | (exact ixn (by omega) (by omega)) | (exact ixl (by decide) (by decide)) | (simp only [pt_len, pl, z0, z1, z2, z3, z4, z5, z6, z7, z8, z9, z10, z11, z12]; omega)) only [↓gb_m, ↓gc_m, ↓gl_s, ↓gg_m, gb_s, gc_s, gg_t, gqm_0, gqm_1, pt_pt, sa_sa, sm_sm, si_si, qk12, qg12_0, qs12_0, qg12_1, qg12_2, qs12_2, qg12_3, qs12_3, qg12_4, qg12_5, qg12_6, qg12_7, qs12_7, qg12_8, qs12_8, qg12_9, qg12_10, qg12_11, qg12_12, qg12_13, qs12_13, qg12_14, qg12_15, qg12_16, qg12_17, qg12_18, qs12_18, qg12_19, qg12_20, qg12_21, qg12_22, qg12_23, qs12_23, qg12_24, qs12_24, qg12_25, qs12_25, qg12_26, qs12_26, qg12_27, qs12_27, qg12_28, qs12_28, qg12_29, qg12_30, qs12_30, qg12_31, qg12_32, qg12_33, qg12_34, qg12_35, qg12_36, qs12_36, qg12_37, qs12_37, qg12_38, qs12_38, qg12_39, qs12_39, qg12_40, qs12_40, qg12_41, qg12_42, qs12_42, qg12_43, qs12_43, qg12_44, qs12_44, qg12_45, qs12_45, qg12_46, qs12_46, qg12_47, qa12_1, qe12_1, ql12_1, qa12_4, qe12_4, ql12_4, qa12_5, qe12_5, ql12_5, qa12_6, qe12_6, ql12_6, qa12_9, qe12_9, ql12_9, qa12_10, qe12_10, ql12_10, qa12_11, qe12_11, ql12_11, qa12_12, qe12_12, ql12_12, qa12_14, qe12_14, ql12_14, qa12_15, qe12_15, ql12_15, qa12_16, qe12_16, ql12_16, qa12_17, qe12_17, ql12_17, qa12_19, qe12_19, ql12_19, qa12_20, qe12_20, ql12_20, qa12_21, qe12_21, ql12_21, qa12_22, qe12_22, ql12_22, qa12_29, qe12_29, ql12_29, qa12_31, qe12_31, ql12_31, qa12_32, qe12_32, ql12_32, qa12_33, qe12_33, ql12_33, qa12_34, qe12_34, ql12_34, qa12_35, qe12_35, ql12_35, qa12_41, qe12_41, ql12_41, qa12_47, qe12_47, ql12_47, oi_si, oi_sl, oi_sa, oi_sm, oi_sv, oi_sq, ol_si, ol_sl, ol_sa, ol_sm, ol_sv, ol_sq, oa_si, oa_sl, oa_sa, oa_sm, oa_sv, oa_sq, om_si, om_sl, om_sa, om_sm, om_sv, om_sq, ov_si, ov_sl, ov_sa, ov_sm, ov_sv, ov_sq, oq_si, oq_sl, oq_sa, oq_sm, oq_sv, oq_sq, Nat.reduceEqDiff, ↓reduceIte, n_add, n_addl, n_ladd, n_add1, n_mul, n_lmul, n_mull, n_sub, n_subl, n_subm, n_lt, n_le, n_eq, n_ltl, n_llt, n_lel, n_lle, n_eql, n_leq, n_m1, n_m1l, n_lt0, n_ge0, i_okc, i_okl, if_true, if_false, not_true, not_false, Nat.not_lt_zero, Nat.zero_le, d5, q5, z0, hw, hs, eB0, Bool.true_eq_false, k2, decide_false, em, q43, eO_s]
/-- a part, and all, at each depth -/
theorem m_parts (hF : 80 + 25 ≤ h.length) (hN : 2000 ≤ N) : ∀ k, k ≤ 5 → ∀ zd, 5 * k + 1 ≤ zd → PC h (g_gP N zd).2.2.2.2 (pPart k) (5 - k) ∧ PC h (g_gP N (zd + 4)).1 (pAll (pPart k)) (5 - k) := by
  have up : ∀ k zd g d, Good g (pPart k) → PC h (g_gP N zd).2.2.2.2 (pPart k) d → PC h (g_gP N (zd + 4)).1 (pAll (pPart k)) d := by
    intro k zd g d hg hp
    have p1 : PC h (g_gP N (zd + 1)).2.2.2.1 (pProd (pPart k)) d := m_products hF hN hg hp
    have p2 : PC h (g_gP N (zd + 2)).2.2.1 (pSum (pPart k)) d := m_sums hF hN (hg.join dMul_k 1000) p1
    have p3 : PC h (g_gP N (zd + 3)).2.1 (pTest (pPart k)) d := m_test hF ((hg.join dMul_k 1000).join dSum_k 1000) p2
    exact m_all hF hN (((hg.join dMul_k 1000).join dSum_k 1000).join dCmp_k 1) p3
  have g0 : Good 0 (pPart 0) := by
    intro ts hv cs t h
    unfold pPart at h
    split at h <;> cases h
  have gk : ∀ k, ∃ g, Good g (pPart k) := by
    intro k
    cases k with
    | zero => exact ⟨0, g0⟩
    | succ k => exact ⟨_, Good.part k⟩
  intro k
  induction k with
  | zero =>
    intro hk zd hz
    obtain ⟨zd, rfl⟩ : ∃ q, zd = q + 1 := ⟨zd - 1, by omega⟩
    have p : PC h (g_gP N (zd + 1)).2.2.2.2 (pPart 0) 5 := m_part0 hF hN
    exact ⟨p, up 0 (zd + 1) 0 5 g0 p⟩
  | succ k ih =>
    intro hk zd hz
    obtain ⟨zd, rfl⟩ : ∃ q, zd = q + 1 := ⟨zd - 1, by omega⟩
    obtain ⟨g, hg⟩ := gk k
    have i1 := (ih (by omega) zd (by omega)).1
    have i2 := (ih (by omega) (zd - 4) (by omega)).2
    rw [show zd - 4 + 4 = zd by omega] at i2
    rw [show 5 - k = 5 - (k + 1) + 1 by omega] at i1 i2
    have p : PC h (g_gP N (zd + 1)).2.2.2.2 (pPart (k + 1)) (5 - (k + 1)) := m_partS hF hN (by omega) hg.all hg i2 i1
    exact ⟨p, up (k + 1) (zd + 1) _ _ (Good.part k) p⟩
theorem m_allQ (hF : 80 + 25 ≤ h.length) (hN : 2000 ≤ N) : PC h (f_X12_all N) (pAll (pPart 5)) 0 := by
  have := (m_parts (h := h) hF hN 5 (Nat.le_refl _) 60 (by omega)).2
  intro TS ts M cs hP hC hb
  exact this TS ts M cs hP hC hb
end MPart

