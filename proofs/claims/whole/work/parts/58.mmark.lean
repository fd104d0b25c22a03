/-! The model: mark, feed -/
def markOk (A : AA) (m : Int32) (b : Bool) : Bool := isN m 4 && (!b || (aM A m.toNatClampNeg).isSome)
def markS (A : AA) (m : Int32) (b : Bool) : AA := if markOk A m b then (if b then (aI A, aT A, (aM A m.toNatClampNeg).getD (aS A), aM A) else (aI A, aT A, aS A, fu (aM A) m.toNatClampNeg (some (aS A)))) else A
theorem SOk.len {I : IA} {S : SA} (h : SOk I S) : (sE S).length ≤ 100 ∧ (sS S).length ≤ 20 ∧ (sJ S).length ≤ 7 ∧ (sB S).length ≤ 7 := ⟨h.2.1, h.2.2.2.1, h.2.2.2.2.2.2.1, h.2.2.2.2.2.2.2.2.1⟩
theorem RepSM.cp {o o' : Nat} {S : SA} {f f' : Nat → Int32} (hl : (sE S).length ≤ 100 ∧ (sS S).length ≤ 20 ∧ (sJ S).length ≤ 7 ∧ (sB S).length ≤ 7) (he : ∀ k, k < 520 → f' (o' + k) = f (o + k)) (q : RepSM o S f) : RepSM o' S f' := by
  obtain ⟨q1, q2, q3, q4, q5, q6, q7, q8, q9, q10⟩ := q
  unfold RepSM
  refine ⟨?_, ?_, ?_, ?_, ?_, ?_, ?_, ?_, ?_, ?_⟩
  · have := he 0 (by omega)
    rw [Nat.add_zero, Nat.add_zero] at this
    rw [this]; exact q1
  · rw [he _ (by omega)]; exact q2
  · intro k y hy
    have := ln_of hy
    rw [he _ (by omega), he _ (by omega), he _ (by omega), he _ (by omega)]
    exact q3 k y hy
  · rw [he _ (by omega)]; exact q4
  · intro k y hy
    have := ln_of hy
    rw [he _ (by omega), he _ (by omega), he _ (by omega)]
    exact q5 k y hy
  · intro g hg
    rw [he _ (by omega)]; exact q6 g hg
  · rw [he _ (by omega)]; exact q7
  · intro k y hy
    have := ln_of hy
    rw [he _ (by omega), he _ (by omega), he _ (by omega)]
    exact q8 k y hy
  · rw [he _ (by omega)]; exact q9
  · intro k y hy
    have := ln_of hy
    rw [he _ (by omega)]
    exact q10 k y hy
theorem mark_ok {A : AA} (hA' : AOk A) (m : Int32) (b : Bool) : AOk (markS A m b) := by
  obtain ⟨a1, a2, a3, a4, a5⟩ := hA'
  unfold markS
  split
  · split
    · refine ⟨a1, ?_, a3, a4, a5⟩
      cases h : aM A m.toNatClampNeg with
      | none => exact a2
      | some S => exact a5 _ _ h
    · refine ⟨a1, a2, a3, a4, ?_⟩
      intro k S h
      have h : fu (aM A) m.toNatClampNeg (some (aS A)) k = some S := h
      rw [fu_at] at h
      split at h
      · cases h; exact a2
      · exact a5 k S h
  · exact ⟨a1, a2, a3, a4, a5⟩
section MMark
variable {N : Nat} {h : PH} {A : AA}
/-- the copying of a mark: d whither, s whence -/
theorem m_mark40 (hF : 80 + 25 ≤ h.length) {f : Nat → Int32} {x : Nat} (hx : x < 4) (b : Bool) {d s : Nat} (hd : d = if b then 0 else 520 * (x + 1)) (hs : s = if b then 520 * (x + 1) else 0) : ∀ n k m M, k + n = 520 → n < m → (∀ j, j < k → oa M 17 (d + j) = f (s + j)) → (∀ j, (j < d ∨ d + k ≤ j) → oa M 17 j = f j) → ∃ M', gi (fun zk zs => f_X12_mark_40 N zk zs.1 zs.2.1 zs.2.2.1 zs.2.2.2.1 zs.2.2.2.2.1 zs.2.2.2.2.2) m (80, Int32.ofNat x, eB b, Int32.ofNat (520 * (x + 1)), Int32.ofNat k, pt sX12 80 M h) = some (1, pt sX12 80 M' h) ∧ Keep [17, 18, 47] M M' ∧ oi M' 18 = 1 ∧ oa M' 47 = upd (oa M 47) x 1 ∧ (∀ j, j < 520 → oa M' 17 (d + j) = f (s + j)) ∧ (∀ j, (j < d ∨ d + 520 ≤ j) → oa M' 17 j = f j) := by
  intro n
  induction n with
  | zero =>
    intro k m M hk hm h1 h2
    obtain ⟨m, rfl⟩ : ∃ k, m = k + 1 := ⟨m - 1, by omega⟩
    rw [gi_1]
    generalize hz : gi _ m = zk
    dsimp only
    have hk : k = 520 := by omega
    subst hk
    unfold f_X12_mark_40
    simp (disch := first | (with_reducible assumption) | (simp only [oi_si, oi_sl, oi_sa, oi_sm, oi_sv, oi_sq, ol_si, ol_sl, ol_sa, ol_sm, ol_sv, ol_sq, oa_si, oa_sl, oa_sa, oa_sm, oa_sv, oa_sq, om_si, om_sl, om_sa, om_sm, om_sv, om_sq, ov_si, ov_sl, ov_sa, ov_sm, ov_sv, ov_sq, oq_si, oq_sl, oq_sa, oq_sm, oq_sv, oq_sq, Nat.reduceEqDiff, ↓reduceIte]; done) | omega | (exact ixn (by omega) (by omega)) | (exact ixl (by decide) (by decide)) | (simp only [pt_len, pl, z0, z1, z2, z3, z4, z5, z6, z7, z8, z9, z10, z11, z12]; omega)) only [↓gb_m, ↓gc_m, ↓gl_s, ↓gg_m, gb_s, gc_s, gg_t, gqm_0, gqm_1, pt_pt, sa_sa, sm_sm, si_si, qk12, qg12_0, qs12_0, qg12_1, qg12_2, qs12_2, qg12_3, qs12_3, qg12_4, qg12_5, qg12_6, qg12_7, qs12_7, qg12_8, qs12_8, qg12_9, qg12_10, qg12_11, qg12_12, qg12_13, qs12_13, qg12_14, qg12_15, qg12_16, qg12_17, qg12_18, qs12_18, qg12_19, qg12_20, qg12_21, qg12_22, qg12_23, qs12_23, qg12_24, qs12_24, qg12_25, qs12_25, qg12_26, qs12_26, qg12_27, qs12_27, qg12_28, qs12_28, qg12_29, qg12_30, qs12_30, qg12_31, qg12_32, qg12_33, qg12_34, qg12_35, qg12_36, qs12_36, qg12_37, qs12_37, qg12_38, qs12_38, qg12_39, qs12_39, qg12_40, qs12_40, qg12_41, qg12_42, qs12_42, qg12_43, qs12_43, qg12_44, qs12_44, qg12_45, qs12_45, qg12_46, qs12_46, qg12_47, qa12_1, qe12_1, ql12_1, qa12_4, qe12_4, ql12_4, qa12_5, qe12_5, ql12_5, qa12_6, qe12_6, ql12_6, qa12_9, qe12_9, ql12_9, qa12_10, qe12_10, ql12_10, qa12_11, qe12_11, ql12_11, qa12_12, qe12_12, ql12_12, qa12_14, qe12_14, ql12_14, qa12_15, qe12_15, ql12_15, qa12_16, qe12_16, ql12_16, qa12_17, qe12_17, ql12_17, qa12_19, qe12_19, ql12_19, qa12_20, qe12_20, ql12_20, qa12_21, qe12_21, ql12_21, qa12_22, qe12_22, ql12_22, qa12_29, qe12_29, ql12_29, qa12_31, qe12_31, ql12_31, qa12_32, qe12_32, ql12_32, qa12_33, qe12_33, ql12_33, qa12_34, qe12_34, ql12_34, qa12_35, qe12_35, ql12_35, qa12_41, qe12_41, ql12_41, qa12_47, qe12_47, ql12_47, oi_si, oi_sl, oi_sa, oi_sm, oi_sv, oi_sq, ol_si, ol_sl, ol_sa, ol_sm, ol_sv, ol_sq, oa_si, oa_sl, oa_sa, oa_sm, oa_sv, oa_sq, om_si, om_sl, om_sa, om_sm, om_sv, om_sq, ov_si, ov_sl, ov_sa, ov_sm, ov_sv, ov_sq, oq_si, oq_sl, oq_sa, oq_sm, oq_sv, oq_sq, Nat.reduceEqDiff, ↓reduceIte, n_add, n_addl, n_ladd, n_add1, n_mul, n_lmul, n_mull, n_sub, n_subl, n_subm, n_lt, n_le, n_eq, n_ltl, n_llt, n_lel, n_lle, n_eql, n_leq, n_m1, n_m1l, n_lt0, n_ge0, i_okc, i_okl, if_true, if_false, not_true, not_false, Nat.not_lt_zero, Nat.zero_le, Nat.le_refl, gnar31, gzb1]
    refine ⟨_, rfl, ?_, ?_, ?_, ?_, ?_⟩
    · (repeat (first | exact Keep.rf | assumption | refine k_si2 ?_ (by decide) | refine k_sa2 ?_ (by decide) | refine k_sm2 ?_ (by decide) | refine k_sl2 ?_ (by decide) | refine k_sv2 ?_ (by decide)))
    · simp only [oi_si, oi_sl, oi_sa, oi_sm, oi_sv, oi_sq, ol_si, ol_sl, ol_sa, ol_sm, ol_sv, ol_sq, oa_si, oa_sl, oa_sa, oa_sm, oa_sv, oa_sq, om_si, om_sl, om_sa, om_sm, om_sv, om_sq, ov_si, ov_sl, ov_sa, ov_sm, ov_sv, ov_sq, oq_si, oq_sl, oq_sa, oq_sm, oq_sv, oq_sq, Nat.reduceEqDiff, ↓reduceIte]
    · simp only [oi_si, oi_sl, oi_sa, oi_sm, oi_sv, oi_sq, ol_si, ol_sl, ol_sa, ol_sm, ol_sv, ol_sq, oa_si, oa_sl, oa_sa, oa_sm, oa_sv, oa_sq, om_si, om_sl, om_sa, om_sm, om_sv, om_sq, ov_si, ov_sl, ov_sa, ov_sm, ov_sv, ov_sq, oq_si, oq_sl, oq_sa, oq_sm, oq_sv, oq_sq, Nat.reduceEqDiff, ↓reduceIte]
    · simp only [oi_si, oi_sl, oi_sa, oi_sm, oi_sv, oi_sq, ol_si, ol_sl, ol_sa, ol_sm, ol_sv, ol_sq, oa_si, oa_sl, oa_sa, oa_sm, oa_sv, oa_sq, om_si, om_sl, om_sa, om_sm, om_sv, om_sq, ov_si, ov_sl, ov_sa, ov_sm, ov_sv, ov_sq, oq_si, oq_sl, oq_sa, oq_sm, oq_sv, oq_sq, Nat.reduceEqDiff, ↓reduceIte]
      exact h1
    · simp only [oi_si, oi_sl, oi_sa, oi_sm, oi_sv, oi_sq, ol_si, ol_sl, ol_sa, ol_sm, ol_sv, ol_sq, oa_si, oa_sl, oa_sa, oa_sm, oa_sv, oa_sq, om_si, om_sl, om_sa, om_sm, om_sv, om_sq, ov_si, ov_sl, ov_sa, ov_sm, ov_sv, ov_sq, oq_si, oq_sl, oq_sa, oq_sm, oq_sv, oq_sq, Nat.reduceEqDiff, ↓reduceIte]
      exact h2
  | succ n ih =>
    intro k m M hk hm h1 h2
    obtain ⟨m, rfl⟩ : ∃ k, m = k + 1 := ⟨m - 1, by omega⟩
    rw [gi_1]
    generalize hz : gi _ m = zk
    dsimp only
    have b2 : (520 ≤ k) = False := propext ⟨fun h => by omega, False.elim⟩
    have dif : s + 520 ≤ d ∨ d + 520 ≤ s := by
      cases b <;> simp at hd hs <;> omega
    obtain ⟨M', e1, e2, e3, e4, e5, e6⟩ := ih (k + 1) m (sa M 17 (upd (oa M 17) (d + k) (oa M 17 (s + k)))) (by omega) (by omega) (by
      intro j hj
      rw [oa_sa, if_pos rfl, upd_at]
      split
      · rename_i q
        have : j = k := by omega
        subst this
        exact h2 _ (by omega)
      · exact h1 j (by omega)) (by
      intro j hj
      rw [oa_sa, if_pos rfl, upd_ne (by omega)]
      exact h2 j (by omega))
    rw [hz] at e1
    refine ⟨M', ?_, (k_sa (by decide)).tr e2, e3, ?_, e5, e6⟩
    · rw [← e1]
      unfold f_X12_mark_40 f_X12_mark_65 f_X12_mark_82
      cases b with
      | true =>
        simp only [if_true] at hd hs
        subst hd hs
        simp (disch := first | (with_reducible assumption) | (simp only [oi_si, oi_sl, oi_sa, oi_sm, oi_sv, oi_sq, ol_si, ol_sl, ol_sa, ol_sm, ol_sv, ol_sq, oa_si, oa_sl, oa_sa, oa_sm, oa_sv, oa_sq, om_si, om_sl, om_sa, om_sm, om_sv, om_sq, ov_si, ov_sl, ov_sa, ov_sm, ov_sv, ov_sq, oq_si, oq_sl, oq_sa, oq_sm, oq_sv, oq_sq, Nat.reduceEqDiff, ↓reduceIte]; done) | omega | (exact ixn (by omega) (by omega)) | (exact ixl (by decide) (by decide)) | (simp only [pt_len, pl, z0, z1, z2, z3, z4, z5, z6, z7, z8, z9, z10, z11, z12]; omega)) only [↓gb_m, ↓gc_m, ↓gl_s, ↓gg_m, gb_s, gc_s, gg_t, gqm_0, gqm_1, pt_pt, sa_sa, sm_sm, si_si, qk12, qg12_0, qs12_0, qg12_1, qg12_2, qs12_2, qg12_3, qs12_3, qg12_4, qg12_5, qg12_6, qg12_7, qs12_7, qg12_8, qs12_8, qg12_9, qg12_10, qg12_11, qg12_12, qg12_13, qs12_13, qg12_14, qg12_15, qg12_16, qg12_17, qg12_18, qs12_18, qg12_19, qg12_20, qg12_21, qg12_22, qg12_23, qs12_23, qg12_24, qs12_24, qg12_25, qs12_25, qg12_26, qs12_26, qg12_27, qs12_27, qg12_28, qs12_28, qg12_29, qg12_30, qs12_30, qg12_31, qg12_32, qg12_33, qg12_34, qg12_35, qg12_36, qs12_36, qg12_37, qs12_37, qg12_38, qs12_38, qg12_39, qs12_39, qg12_40, qs12_40, qg12_41, qg12_42, qs12_42, qg12_43, qs12_43, qg12_44, qs12_44, qg12_45, qs12_45, qg12_46, qs12_46, qg12_47, qa12_1, qe12_1, ql12_1, qa12_4, qe12_4, ql12_4, qa12_5, qe12_5, ql12_5, qa12_6, qe12_6, ql12_6, qa12_9, qe12_9, ql12_9, qa12_10, qe12_10, ql12_10, qa12_11, qe12_11, ql12_11, qa12_12, qe12_12, ql12_12, qa12_14, qe12_14, ql12_14, qa12_15, qe12_15, ql12_15, qa12_16, qe12_16, ql12_16, qa12_17, qe12_17, ql12_17, qa12_19, qe12_19, ql12_19, qa12_20, qe12_20, ql12_20, qa12_21, qe12_21, ql12_21, qa12_22, qe12_22, ql12_22, qa12_29, qe12_29, ql12_29, qa12_31, qe12_31, ql12_31, qa12_32, qe12_32, ql12_32, qa12_33, qe12_33, ql12_33, qa12_34, qe12_34, ql12_34, qa12_35, qe12_35, ql12_35, qa12_41, qe12_41, ql12_41, qa12_47, qe12_47, ql12_47, oi_si, oi_sl, oi_sa, oi_sm, oi_sv, oi_sq, ol_si, ol_sl, ol_sa, ol_sm, ol_sv, ol_sq, oa_si, oa_sl, oa_sa, oa_sm, oa_sv, oa_sq, om_si, om_sl, om_sa, om_sm, om_sv, om_sq, ov_si, ov_sl, ov_sa, ov_sm, ov_sv, ov_sq, oq_si, oq_sl, oq_sa, oq_sm, oq_sv, oq_sq, Nat.reduceEqDiff, ↓reduceIte, n_add, n_addl, n_ladd, n_add1, n_mul, n_lmul, n_mull, n_sub, n_subl, n_subm, n_lt, n_le, n_eq, n_ltl, n_llt, n_lel, n_lle, n_eql, n_leq, n_m1, n_m1l, n_lt0, n_ge0, i_okc, i_okl, if_true, if_false, not_true, not_false, Nat.not_lt_zero, Nat.zero_le, b2, eB0, Bool.true_eq_false, Nat.zero_add]
      | false =>
        simp only [Bool.false_eq_true, if_false] at hd hs
        subst hd hs
        simp (disch := first | (with_reducible assumption) | (simp only [oi_si, oi_sl, oi_sa, oi_sm, oi_sv, oi_sq, ol_si, ol_sl, ol_sa, ol_sm, ol_sv, ol_sq, oa_si, oa_sl, oa_sa, oa_sm, oa_sv, oa_sq, om_si, om_sl, om_sa, om_sm, om_sv, om_sq, ov_si, ov_sl, ov_sa, ov_sm, ov_sv, ov_sq, oq_si, oq_sl, oq_sa, oq_sm, oq_sv, oq_sq, Nat.reduceEqDiff, ↓reduceIte]; done) | omega | (exact ixn (by omega) (by omega)) | (exact ixl (by decide) (by decide)) | (simp only [pt_len, pl, z0, z1, z2, z3, z4, z5, z6, z7, z8, z9, z10, z11, z12]; omega)) only [↓gb_m, ↓gc_m, ↓gl_s, ↓gg_m, gb_s, gc_s, gg_t, gqm_0, gqm_1, pt_pt, sa_sa, sm_sm, si_si, qk12, qg12_0, qs12_0, qg12_1, qg12_2, qs12_2, qg12_3, qs12_3, qg12_4, qg12_5, qg12_6, qg12_7, qs12_7, qg12_8, qs12_8, qg12_9, qg12_10, qg12_11, qg12_12, qg12_13, qs12_13, qg12_14, qg12_15, qg12_16, qg12_17, qg12_18, qs12_18, qg12_19, qg12_20, qg12_21, qg12_22, qg12_23, qs12_23, qg12_24, qs12_24, qg12_25, qs12_25, qg12_26, qs12_26, qg12_27, qs12_27, qg12_28, qs12_28, qg12_29, qg12_30, qs12_30, qg12_31, qg12_32, qg12_33, qg12_34, qg12_35, qg12_36, qs12_36, qg12_37, qs12_37, qg12_38, qs12_38, qg12_39, qs12_39, qg12_40, qs12_40, qg12_41, qg12_42, qs12_42, qg12_43, qs12_43, qg12_44, qs12_44, qg12_45, qs12_45, qg12_46, qs12_46, qg12_47, qa12_1, qe12_1, ql12_1, qa12_4, qe12_4, ql12_4, qa12_5, qe12_5, ql12_5, qa12_6, qe12_6, ql12_6, qa12_9, qe12_9, ql12_9, qa12_10, qe12_10, ql12_10, qa12_11, qe12_11, ql12_11, qa12_12, qe12_12, ql12_12, qa12_14, qe12_14, ql12_14, qa12_15, qe12_15, ql12_15, qa12_16, qe12_16, ql12_16, qa12_17, qe12_17, ql12_17, qa12_19, qe12_19, ql12_19, qa12_20, qe12_20, ql12_20, qa12_21, qe12_21, ql12_21, qa12_22, qe12_22, ql12_22, qa12_29, qe12_29, ql12_29, qa12_31, qe12_31, ql12_31, qa12_32, qe12_32, ql12_32, qa12_33, qe12_33, ql12_33, qa12_34, qe12_34, ql12_34, qa12_35, qe12_35, ql12_35, qa12_41, qe12_41, ql12_41, qa12_47, qe12_47, ql12_47, oi_si, oi_sl, oi_sa, oi_sm, oi_sv, oi_sq, ol_si, ol_sl, ol_sa, ol_sm, ol_sv, ol_sq, oa_si, oa_sl, oa_sa, oa_sm, oa_sv, oa_sq, om_si, om_sl, om_sa, om_sm, om_sv, om_sq, ov_si, ov_sl, ov_sa, ov_sm, ov_sv, ov_sq, oq_si, oq_sl, oq_sa, oq_sm, oq_sv, oq_sq, Nat.reduceEqDiff, ↓reduceIte, n_add, n_addl, n_ladd, n_add1, n_mul, n_lmul, n_mull, n_sub, n_subl, n_subm, n_lt, n_le, n_eq, n_ltl, n_llt, n_lel, n_lle, n_eql, n_leq, n_m1, n_m1l, n_lt0, n_ge0, i_okc, i_okl, if_true, if_false, not_true, not_false, Nat.not_lt_zero, Nat.zero_le, b2, eB0, Nat.zero_add]
    · rw [e4, oa_sa, if_neg (by decide)]
theorem m_mark (hN : 2000 ≤ N) (hA' : AOk A) (m : Int32) (b : Bool) : MAns A (markS A m b) (f_X12_mark N 80 m (eB b)) (eB (markOk A m b)) := by
  intro M h hF hM'
  have hM1 : RepMod A (si M 0 0) := hM'.kp k0 (by decide)
  unfold f_X12_mark markS
  cases q : isN m 4 with
  | false =>
    have q2 : markOk A m b = false := by unfold markOk; rw [q]; rfl
    unfold f_X12_mark_27
    simp (disch := first | (with_reducible assumption) | (simp only [oi_si, oi_sl, oi_sa, oi_sm, oi_sv, oi_sq, ol_si, ol_sl, ol_sa, ol_sm, ol_sv, ol_sq, oa_si, oa_sl, oa_sa, oa_sm, oa_sv, oa_sq, om_si, om_sl, om_sa, om_sm, om_sv, om_sq, ov_si, ov_sl, ov_sa, ov_sm, ov_sv, ov_sq, oq_si, oq_sl, oq_sa, oq_sm, oq_sv, oq_sq, Nat.reduceEqDiff, ↓reduceIte]; done) | omega | (exact ixn (by omega) (by omega)) | (exact ixl (by decide) (by decide)) | (simp only [pt_len, pl, z0, z1, z2, z3, z4, z5, z6, z7, z8, z9, z10, z11, z12]; omega)) only [↓gb_m, ↓gc_m, ↓gl_s, ↓gg_m, gb_s, gc_s, gg_t, gqm_0, gqm_1, pt_pt, sa_sa, sm_sm, si_si, qk12, qg12_0, qs12_0, qg12_1, qg12_2, qs12_2, qg12_3, qs12_3, qg12_4, qg12_5, qg12_6, qg12_7, qs12_7, qg12_8, qs12_8, qg12_9, qg12_10, qg12_11, qg12_12, qg12_13, qs12_13, qg12_14, qg12_15, qg12_16, qg12_17, qg12_18, qs12_18, qg12_19, qg12_20, qg12_21, qg12_22, qg12_23, qs12_23, qg12_24, qs12_24, qg12_25, qs12_25, qg12_26, qs12_26, qg12_27, qs12_27, qg12_28, qs12_28, qg12_29, qg12_30, qs12_30, qg12_31, qg12_32, qg12_33, qg12_34, qg12_35, qg12_36, qs12_36, qg12_37, qs12_37, qg12_38, qs12_38, qg12_39, qs12_39, qg12_40, qs12_40, qg12_41, qg12_42, qs12_42, qg12_43, qs12_43, qg12_44, qs12_44, qg12_45, qs12_45, qg12_46, qs12_46, qg12_47, qa12_1, qe12_1, ql12_1, qa12_4, qe12_4, ql12_4, qa12_5, qe12_5, ql12_5, qa12_6, qe12_6, ql12_6, qa12_9, qe12_9, ql12_9, qa12_10, qe12_10, ql12_10, qa12_11, qe12_11, ql12_11, qa12_12, qe12_12, ql12_12, qa12_14, qe12_14, ql12_14, qa12_15, qe12_15, ql12_15, qa12_16, qe12_16, ql12_16, qa12_17, qe12_17, ql12_17, qa12_19, qe12_19, ql12_19, qa12_20, qe12_20, ql12_20, qa12_21, qe12_21, ql12_21, qa12_22, qe12_22, ql12_22, qa12_29, qe12_29, ql12_29, qa12_31, qe12_31, ql12_31, qa12_32, qe12_32, ql12_32, qa12_33, qe12_33, ql12_33, qa12_34, qe12_34, ql12_34, qa12_35, qe12_35, ql12_35, qa12_41, qe12_41, ql12_41, qa12_47, qe12_47, ql12_47, oi_si, oi_sl, oi_sa, oi_sm, oi_sv, oi_sq, ol_si, ol_sl, ol_sa, ol_sm, ol_sv, ol_sq, oa_si, oa_sl, oa_sa, oa_sm, oa_sv, oa_sq, om_si, om_sl, om_sa, om_sm, om_sv, om_sq, ov_si, ov_sl, ov_sa, ov_sm, ov_sv, ov_sq, oq_si, oq_sl, oq_sa, oq_sm, oq_sv, oq_sq, Nat.reduceEqDiff, ↓reduceIte, n_add, n_addl, n_ladd, n_add1, n_mul, n_lmul, n_mull, n_sub, n_subl, n_subm, n_lt, n_le, n_eq, n_ltl, n_llt, n_lel, n_lle, n_eql, n_leq, n_m1, n_m1l, n_lt0, n_ge0, i_okc, i_okl, if_true, if_false, not_true, not_false, Nat.not_lt_zero, Nat.zero_le, m_within (w := 3) (n := 3) (by omega) rfl, q, eB0, gzb0, q2, Bool.false_eq_true]
    exact ⟨_, rfl, hM1⟩
  | true =>
    obtain ⟨x, hx, rfl⟩ := isN_t (by omega) q
    obtain ⟨q1, q2, q3, q4, q5, q6, q7⟩ := hM1
    have c1 := (q4 x hx).1
    have cx : (Int32.ofNat x).toNatClampNeg = x := i_okc (by omega)
    rw [cx]
    have e520 : (520 : Int32) * Int32.ofNat (x + 1) = Int32.ofNat (520 * (x + 1)) := n_mul 520 (x + 1)
    cases b with
    | true =>
      cases hS : aM A x with
      | none =>
        have q2 : markOk A (Int32.ofNat x) true = false := by unfold markOk; rw [q, cx, hS]; rfl
        rw [hS] at c1
        unfold f_X12_mark_27
        simp (disch := first | (with_reducible assumption) | (simp only [oi_si, oi_sl, oi_sa, oi_sm, oi_sv, oi_sq, ol_si, ol_sl, ol_sa, ol_sm, ol_sv, ol_sq, oa_si, oa_sl, oa_sa, oa_sm, oa_sv, oa_sq, om_si, om_sl, om_sa, om_sm, om_sv, om_sq, ov_si, ov_sl, ov_sa, ov_sm, ov_sv, ov_sq, oq_si, oq_sl, oq_sa, oq_sm, oq_sv, oq_sq, Nat.reduceEqDiff, ↓reduceIte]; done) | omega | (exact ixn (by omega) (by omega)) | (exact ixl (by decide) (by decide)) | (simp only [pt_len, pl, z0, z1, z2, z3, z4, z5, z6, z7, z8, z9, z10, z11, z12]; omega)) only [↓gb_m, ↓gc_m, ↓gl_s, ↓gg_m, gb_s, gc_s, gg_t, gqm_0, gqm_1, pt_pt, sa_sa, sm_sm, si_si, qk12, qg12_0, qs12_0, qg12_1, qg12_2, qs12_2, qg12_3, qs12_3, qg12_4, qg12_5, qg12_6, qg12_7, qs12_7, qg12_8, qs12_8, qg12_9, qg12_10, qg12_11, qg12_12, qg12_13, qs12_13, qg12_14, qg12_15, qg12_16, qg12_17, qg12_18, qs12_18, qg12_19, qg12_20, qg12_21, qg12_22, qg12_23, qs12_23, qg12_24, qs12_24, qg12_25, qs12_25, qg12_26, qs12_26, qg12_27, qs12_27, qg12_28, qs12_28, qg12_29, qg12_30, qs12_30, qg12_31, qg12_32, qg12_33, qg12_34, qg12_35, qg12_36, qs12_36, qg12_37, qs12_37, qg12_38, qs12_38, qg12_39, qs12_39, qg12_40, qs12_40, qg12_41, qg12_42, qs12_42, qg12_43, qs12_43, qg12_44, qs12_44, qg12_45, qs12_45, qg12_46, qs12_46, qg12_47, qa12_1, qe12_1, ql12_1, qa12_4, qe12_4, ql12_4, qa12_5, qe12_5, ql12_5, qa12_6, qe12_6, ql12_6, qa12_9, qe12_9, ql12_9, qa12_10, qe12_10, ql12_10, qa12_11, qe12_11, ql12_11, qa12_12, qe12_12, ql12_12, qa12_14, qe12_14, ql12_14, qa12_15, qe12_15, ql12_15, qa12_16, qe12_16, ql12_16, qa12_17, qe12_17, ql12_17, qa12_19, qe12_19, ql12_19, qa12_20, qe12_20, ql12_20, qa12_21, qe12_21, ql12_21, qa12_22, qe12_22, ql12_22, qa12_29, qe12_29, ql12_29, qa12_31, qe12_31, ql12_31, qa12_32, qe12_32, ql12_32, qa12_33, qe12_33, ql12_33, qa12_34, qe12_34, ql12_34, qa12_35, qe12_35, ql12_35, qa12_41, qe12_41, ql12_41, qa12_47, qe12_47, ql12_47, oi_si, oi_sl, oi_sa, oi_sm, oi_sv, oi_sq, ol_si, ol_sl, ol_sa, ol_sm, ol_sv, ol_sq, oa_si, oa_sl, oa_sa, oa_sm, oa_sv, oa_sq, om_si, om_sl, om_sa, om_sm, om_sv, om_sq, ov_si, ov_sl, ov_sa, ov_sm, ov_sv, ov_sq, oq_si, oq_sl, oq_sa, oq_sm, oq_sv, oq_sq, Nat.reduceEqDiff, ↓reduceIte, n_add, n_addl, n_ladd, n_add1, n_mul, n_lmul, n_mull, n_sub, n_subl, n_subm, n_lt, n_le, n_eq, n_ltl, n_llt, n_lel, n_lle, n_eql, n_leq, n_m1, n_m1l, n_lt0, n_ge0, i_okc, i_okl, if_true, if_false, not_true, not_false, Nat.not_lt_zero, Nat.zero_le, m_within (w := 3) (n := 3) (by omega) rfl, q, eB0, gzb0, q2, Bool.false_eq_true, Bool.true_eq_false, c1, Option.isSome_none]
        exact ⟨_, rfl, ⟨q1, ‹_›, q3, q4, q5, q6, q7⟩⟩
      | some S =>
        have ok : markOk A (Int32.ofNat x) true = true := by unfold markOk; rw [q, cx, hS]; rfl
        rw [hS] at c1
        obtain ⟨M', e1, e2, e3, e4, e5, e6⟩ := m_mark40 (N := N) hF (f := oa M 17) hx true (d := 0) (s := 520 * (x + 1)) rfl rfl 520 0 N (si M 0 0) (by omega) (by omega) (fun j hj => by omega) (fun j _ => rfl)
        refine ⟨M', ?_, ?_⟩
        · unfold f_X12_mark_29
          simp (disch := first | (with_reducible assumption) | (simp only [oi_si, oi_sl, oi_sa, oi_sm, oi_sv, oi_sq, ol_si, ol_sl, ol_sa, ol_sm, ol_sv, ol_sq, oa_si, oa_sl, oa_sa, oa_sm, oa_sv, oa_sq, om_si, om_sl, om_sa, om_sm, om_sv, om_sq, ov_si, ov_sl, ov_sa, ov_sm, ov_sv, ov_sq, oq_si, oq_sl, oq_sa, oq_sm, oq_sv, oq_sq, Nat.reduceEqDiff, ↓reduceIte]; done) | omega | (exact ixn (by omega) (by omega)) | (exact ixl (by decide) (by decide)) | (simp only [pt_len, pl, z0, z1, z2, z3, z4, z5, z6, z7, z8, z9, z10, z11, z12]; omega)) only [↓gb_m, ↓gc_m, ↓gl_s, ↓gg_m, gb_s, gc_s, gg_t, gqm_0, gqm_1, pt_pt, sa_sa, sm_sm, si_si, qk12, qg12_0, qs12_0, qg12_1, qg12_2, qs12_2, qg12_3, qs12_3, qg12_4, qg12_5, qg12_6, qg12_7, qs12_7, qg12_8, qs12_8, qg12_9, qg12_10, qg12_11, qg12_12, qg12_13, qs12_13, qg12_14, qg12_15, qg12_16, qg12_17, qg12_18, qs12_18, qg12_19, qg12_20, qg12_21, qg12_22, qg12_23, qs12_23, qg12_24, qs12_24, qg12_25, qs12_25, qg12_26, qs12_26, qg12_27, qs12_27, qg12_28, qs12_28, qg12_29, qg12_30, qs12_30, qg12_31, qg12_32, qg12_33, qg12_34, qg12_35, qg12_36, qs12_36, qg12_37, qs12_37, qg12_38, qs12_38, qg12_39, qs12_39, qg12_40, qs12_40, qg12_41, qg12_42, qs12_42, qg12_43, qs12_43, qg12_44, qs12_44, qg12_45, qs12_45, qg12_46, qs12_46, qg12_47, qa12_1, qe12_1, ql12_1, qa12_4, qe12_4, ql12_4, qa12_5, qe12_5, ql12_5, qa12_6, qe12_6, ql12_6, qa12_9, qe12_9, ql12_9, qa12_10, qe12_10, ql12_10, qa12_11, qe12_11, ql12_11, qa12_12, qe12_12, ql12_12, qa12_14, qe12_14, ql12_14, qa12_15, qe12_15, ql12_15, qa12_16, qe12_16, ql12_16, qa12_17, qe12_17, ql12_17, qa12_19, qe12_19, ql12_19, qa12_20, qe12_20, ql12_20, qa12_21, qe12_21, ql12_21, qa12_22, qe12_22, ql12_22, qa12_29, qe12_29, ql12_29, qa12_31, qe12_31, ql12_31, qa12_32, qe12_32, ql12_32, qa12_33, qe12_33, ql12_33, qa12_34, qe12_34, ql12_34, qa12_35, qe12_35, ql12_35, qa12_41, qe12_41, ql12_41, qa12_47, qe12_47, ql12_47, oi_si, oi_sl, oi_sa, oi_sm, oi_sv, oi_sq, ol_si, ol_sl, ol_sa, ol_sm, ol_sv, ol_sq, oa_si, oa_sl, oa_sa, oa_sm, oa_sv, oa_sq, om_si, om_sl, om_sa, om_sm, om_sv, om_sq, ov_si, ov_sl, ov_sa, ov_sm, ov_sv, ov_sq, oq_si, oq_sl, oq_sa, oq_sm, oq_sv, oq_sq, Nat.reduceEqDiff, ↓reduceIte, n_add, n_addl, n_ladd, n_add1, n_mul, n_lmul, n_mull, n_sub, n_subl, n_subm, n_lt, n_le, n_eq, n_ltl, n_llt, n_lel, n_lle, n_eql, n_leq, n_m1, n_m1l, n_lt0, n_ge0, i_okc, i_okl, if_true, if_false, not_true, not_false, Nat.not_lt_zero, Nat.zero_le, m_within (w := 3) (n := 3) (by omega) rfl, q, eB0, gzb0, ok, Bool.false_eq_true, Bool.true_eq_false, c1, Option.isSome_some, e520]
          exact e1
        · rw [if_pos ok, if_pos rfl]
          have hSk : SOk (aI A) S := hA'.2.2.2.2 x S hS
          refine ⟨q1.kp e2 (by decide) (by decide) (by decide), ?_, ?_, ?_, ?_, ?_, ?_⟩
          · show RepSM 0 ((some S).getD (aS A)) (oa M' 17)
            refine RepSM.cp hSk.len ?_ ((q4 x hx).2 S hS)
            intro k hk
            exact e5 k hk
          · intro z
            rw [e3] at z
            exact absurd z (by decide)
          · intro k hk
            have c2 := q4 k hk
            refine ⟨?_, ?_⟩
            · rw [e4, upd_at]
              split
              · rename_i z
                subst z
                show _ = eB (aM A k).isSome
                rw [hS]
                rfl
              · exact c2.1
            · intro T hT
              have hT : aM A k = some T := hT
              refine RepSM.cp (hA'.2.2.2.2 k T hT).len ?_ (c2.2 T hT)
              intro j hj
              exact e6 _ (by omega)
          · rw [e2.i (by decide)]; exact q5
          · rw [e2.a (by decide)]; exact q6
          · rw [e2.m (by decide)]; exact q7
    | false =>
      have ok : markOk A (Int32.ofNat x) false = true := by unfold markOk; rw [q]; rfl
      obtain ⟨M', e1, e2, e3, e4, e5, e6⟩ := m_mark40 (N := N) hF (f := oa M 17) hx false (d := 520 * (x + 1)) (s := 0) rfl rfl 520 0 N (si M 0 0) (by omega) (by omega) (fun j hj => by omega) (fun j _ => rfl)
      refine ⟨M', ?_, ?_⟩
      · unfold f_X12_mark_29
        simp (disch := first | (with_reducible assumption) | (simp only [oi_si, oi_sl, oi_sa, oi_sm, oi_sv, oi_sq, ol_si, ol_sl, ol_sa, ol_sm, ol_sv, ol_sq, oa_si, oa_sl, oa_sa, oa_sm, oa_sv, oa_sq, om_si, om_sl, om_sa, om_sm, om_sv, om_sq, ov_si, ov_sl, ov_sa, ov_sm, ov_sv, ov_sq, oq_si, oq_sl, oq_sa, oq_sm, oq_sv, oq_sq, Nat.reduceEqDiff, ↓reduceIte]; done) | omega | (exact ixn (by omega) (by omega)) | (exact ixl (by decide) (by decide)) | (simp only [pt_len, pl, z0, z1, z2, z3, z4, z5, z6, z7, z8, z9, z10, z11, z12]; omega)) only [↓gb_m, ↓gc_m, ↓gl_s, ↓gg_m, gb_s, gc_s, gg_t, gqm_0, gqm_1, pt_pt, sa_sa, sm_sm, si_si, qk12, qg12_0, qs12_0, qg12_1, qg12_2, qs12_2, qg12_3, qs12_3, qg12_4, qg12_5, qg12_6, qg12_7, qs12_7, qg12_8, qs12_8, qg12_9, qg12_10, qg12_11, qg12_12, qg12_13, qs12_13, qg12_14, qg12_15, qg12_16, qg12_17, qg12_18, qs12_18, qg12_19, qg12_20, qg12_21, qg12_22, qg12_23, qs12_23, qg12_24, qs12_24, qg12_25, qs12_25, qg12_26, qs12_26, qg12_27, qs12_27, qg12_28, qs12_28, qg12_29, qg12_30, qs12_30, qg12_31, qg12_32, qg12_33, qg12_34, qg12_35, qg12_36, qs12_36, qg12_37, qs12_37, qg12_38, qs12_38, qg12_39, qs12_39, qg12_40, qs12_40, qg12_41, qg12_42, qs12_42, qg12_43, qs12_43, qg12_44, qs12_44, qg12_45, qs12_45, qg12_46, qs12_46, qg12_47, qa12_1, qe12_1, ql12_1, qa12_4, qe12_4, ql12_4, qa12_5, qe12_5, ql12_5, qa12_6, qe12_6, ql12_6, qa12_9, qe12_9, ql12_9, qa12_10, qe12_10, ql12_10, qa12_11, qe12_11, ql12_11, qa12_12, qe12_12, ql12_12, qa12_14, qe12_14, ql12_14, qa12_15, qe12_15, ql12_15, qa12_16, qe12_16, ql12_16, qa12_17, qe12_17, ql12_17, qa12_19, qe12_19, ql12_19, qa12_20, qe12_20, ql12_20, qa12_21, qe12_21, ql12_21, qa12_22, qe12_22, ql12_22, qa12_29, qe12_29, ql12_29, qa12_31, qe12_31, ql12_31, qa12_32, qe12_32, ql12_32, qa12_33, qe12_33, ql12_33, qa12_34, qe12_34, ql12_34, qa12_35, qe12_35, ql12_35, qa12_41, qe12_41, ql12_41, qa12_47, qe12_47, ql12_47, oi_si, oi_sl, oi_sa, oi_sm, oi_sv, oi_sq, ol_si, ol_sl, ol_sa, ol_sm, ol_sv, ol_sq, oa_si, oa_sl, oa_sa, oa_sm, oa_sv, oa_sq, om_si, om_sl, om_sa, om_sm, om_sv, om_sq, ov_si, ov_sl, ov_sa, ov_sm, ov_sv, ov_sq, oq_si, oq_sl, oq_sa, oq_sm, oq_sv, oq_sq, Nat.reduceEqDiff, ↓reduceIte, n_add, n_addl, n_ladd, n_add1, n_mul, n_lmul, n_mull, n_sub, n_subl, n_subm, n_lt, n_le, n_eq, n_ltl, n_llt, n_lel, n_lle, n_eql, n_leq, n_m1, n_m1l, n_lt0, n_ge0, i_okc, i_okl, if_true, if_false, not_true, not_false, Nat.not_lt_zero, Nat.zero_le, m_within (w := 3) (n := 3) (by omega) rfl, q, eB0, gzb0, ok, Bool.false_eq_true, Bool.true_eq_false, e520]
        exact e1
      · rw [if_pos ok, if_neg (by decide)]
        have hSk := hA'.2.1
        refine ⟨q1.kp e2 (by decide) (by decide) (by decide), ?_, ?_, ?_, ?_, ?_, ?_⟩
        · show RepSM 0 (aS A) (oa M' 17)
          refine RepSM.cp hSk.len ?_ q2
          intro k hk
          rw [Nat.zero_add]
          exact e6 k (by omega)
        · intro z
          rw [e3] at z
          exact absurd z (by decide)
        · intro k hk
          have c2 := q4 k hk
          show oa M' 47 k = eB (fu (aM A) x (some (aS A)) k).isSome ∧ ∀ S, fu (aM A) x (some (aS A)) k = some S → RepSM (520 * (k + 1)) S (oa M' 17)
          rw [e4, upd_at, fu_at]
          by_cases z : k = x
          · subst z
            rw [if_pos rfl, if_pos rfl]
            refine ⟨rfl, fun S hS => ?_⟩
            cases hS
            refine RepSM.cp hSk.len ?_ q2
            intro j hj
            exact e5 j hj
          · rw [if_neg z, if_neg z]
            refine ⟨c2.1, fun T hT => ?_⟩
            refine RepSM.cp (hA'.2.2.2.2 k T hT).len ?_ (c2.2 T hT)
            intro j hj
            exact e6 _ (by omega)
        · rw [e2.i (by decide)]; exact q5
        · rw [e2.a (by decide)]; exact q6
        · rw [e2.m (by decide)]; exact q7
end MMark
/-! feeding -/
def okC (c : Nat) : Bool := decide (c = 10) || (decide (32 ≤ c) && decide (c ≤ 126))
def laC (T : List Nat) (c : Nat) : List Nat := if okC c && decide (T.length < 1000) then T ++ [c] else T
def sgM (v : Int64) (k : Nat) : Int32 := (Int64.toInt32 (v >>> (Int32.toInt64 (Int32.ofNat k) &&& 63))) &&& 255
def byS (v : Int64) : Nat → List Nat
  | 0 => []
  | n + 1 => (sgM v (8 * n)).toNatClampNeg :: byS v n
def layS (T : List Nat) (v : Int64) : List Nat := (byS v 8).foldl laC T
def feedS (A : AA) (a b c : Int64) : AA := (aI A, layS (layS (layS (aT A) a) b) c, aS A, aM A)
def TOk (T : List Nat) : Prop := T.length ≤ 1000 ∧ ∀ c, c ∈ T → c = 10 ∨ (32 ≤ c ∧ c ≤ 126)
theorem okC_iff {c : Nat} : okC c = true ↔ (c = 10 ∨ (32 ≤ c ∧ c ≤ 126)) := by
  unfold okC
  simp
theorem laC_ok {T : List Nat} (hT : TOk T) (c : Nat) : TOk (laC T c) := by
  unfold laC
  split
  · rename_i q
    simp only [Bool.and_eq_true, decide_eq_true_eq] at q
    refine ⟨by rw [List.length_append]; show T.length + 1 ≤ 1000; omega, fun x hx => ?_⟩
    rcases List.mem_append.mp hx with z | z
    · exact hT.2 x z
    · rw [List.mem_singleton.mp z]
      exact okC_iff.mp q.1
  · exact hT
theorem layL_ok : ∀ (cs : List Nat) {T : List Nat}, TOk T → TOk (cs.foldl laC T) := by
  intro cs
  induction cs with
  | nil => intro T h; exact h
  | cons c cs ih => intro T h; exact ih (laC_ok h c)
theorem feed_ok {A : AA} (hA' : AOk A) (a b c : Int64) : AOk (feedS A a b c) := by
  obtain ⟨a1, a2, a3, a4, a5⟩ := hA'
  have : TOk (layS (layS (layS (aT A) a) b) c) := layL_ok _ (layL_ok _ (layL_ok _ ⟨a3, a4⟩))
  exact ⟨a1, a2, this.1, this.2, a5⟩
theorem and255 (x : Int32) : ∃ c : Nat, c < 256 ∧ x &&& 255 = Int32.ofNat c := by
  refine ⟨(x.toBitVec &&& 255#32).toNat, ?_, ?_⟩
  · rw [BitVec.toNat_and]
    exact Nat.lt_of_le_of_lt Nat.and_le_right (by decide)
  · apply bv_ext
    intro i hi
    rw [bv_n, BitVec.testBit_toNat]
    simp [hi]
section MFeed
variable {N : Nat} {h : PH} {A : AA}
/-- the tape as the model has it -/
def RepT (T : List Nat) (M : OD) : Prop := oi M 2 = Int32.ofNat T.length ∧ ∀ (k c : Nat), T[k]? = some c → oa M 1 k = Int32.ofNat c
theorem m_lay (hF : 80 + 25 ≤ h.length) (hN : 2000 ≤ N) (v : Int64) {M : OD} {T : List Nat} (hT : TOk T) (hR : RepT T M) : ∃ M', f_X12_lay N 80 v (pt sX12 80 M h) = some (pt sX12 80 M' h) ∧ Keep [1, 2] M M' ∧ RepT (layS T v) M' := by
  have key : ∀ n m M T, n ≤ 8 → n < m → TOk T → RepT T M → ∃ M', gi (fun zk zs => f_X12_lay_3 N zk zs.1 zs.2.1 zs.2.2.1 zs.2.2.2) m (80, v, Int32.ofNat (8 * n) + (-8), pt sX12 80 M h) = some (pt sX12 80 M' h) ∧ Keep [1, 2] M M' ∧ RepT ((byS v n).foldl laC T) M' := by
    intro n
    induction n with
    | zero =>
      intro m M T _ hm hT hR
      obtain ⟨m, rfl⟩ : ∃ k, m = k + 1 := ⟨m - 1, by omega⟩
      rw [gi_1]
      generalize hz : gi _ m = zk
      dsimp only
      unfold f_X12_lay_3
      rw [if_pos (by decide)]
      exact ⟨M, rfl, Keep.rf, hR⟩
    | succ n ih =>
      intro m M T hn hm hT hR
      obtain ⟨m, rfl⟩ : ∃ k, m = k + 1 := ⟨m - 1, by omega⟩
      rw [gi_1]
      generalize hz : gi _ m = zk
      dsimp only
      have e0 : Int32.ofNat (8 * (n + 1)) + (-8) = Int32.ofNat (8 * n) := by
        rw [i_eq, i_add, i_on, i_on]
        have h1 : (-8 : Int32).toInt = -8 := by decide
        rw [h1]
        simp only [Int.bmod]
        omega
      rw [e0]
      obtain ⟨c, hc, ec⟩ := and255 (Int64.toInt32 (v >>> (Int32.toInt64 (Int32.ofNat (8 * n)) &&& 63)))
      have ec2 : (sgM v (8 * n)).toNatClampNeg = c := by
        unfold sgM
        rw [ec, i_okc (by omega)]
      have hl := hT.1
      have b2 : ∀ (zk : (Nat × Int64 × Int32 × PH) → Option PH) (M : OD), f_X12_lay_69 N zk 80 v (Int32.ofNat (8 * n)) (pt sX12 80 M h) = zk (80, v, Int32.ofNat (8 * n) + (-8), pt sX12 80 M h) := fun zk M => rfl
      have sk : okC c = false ∨ 1000 ≤ T.length → laC T c = T := by
        intro z
        unfold laC
        rw [if_neg]
        simp only [Bool.and_eq_true, decide_eq_true_eq]
        rintro ⟨z1, z2⟩
        rcases z with z | z
        · rw [z1] at z; cases z
        · omega
      have nx : ∀ M1 T1, laC T c = T1 → Keep [1, 2] M M1 → RepT T1 M1 → ∃ M', zk (80, v, Int32.ofNat (8 * n) + (-8), pt sX12 80 M1 h) = some (pt sX12 80 M' h) ∧ Keep [1, 2] M M' ∧ RepT ((byS v (n + 1)).foldl laC T) M' := by
        intro M1 T1 k1 k2 k3
        have ht1 : TOk T1 := by rw [← k1]; exact laC_ok hT c
        obtain ⟨M', e1, e2, e3⟩ := ih m M1 T1 (by omega) (by omega) ht1 k3
        refine ⟨M', ?_, k2.tr e2, ?_⟩
        · rw [← hz]
          exact e1
        · show RepT ((((sgM v (8 * n)).toNatClampNeg) :: byS v n).foldl laC T) M'
          rw [ec2, List.foldl_cons, k1]
          exact e3
      have put : okC c = true → ∃ M', f_X12_lay_38 N zk 80 v (Int32.ofNat (8 * n)) (Int32.ofNat c) (pt sX12 80 M h) = some (pt sX12 80 M' h) ∧ Keep [1, 2] M M' ∧ RepT ((byS v (n + 1)).foldl laC T) M' := by
        intro ok
        unfold f_X12_lay_38
        by_cases ql : 1000 ≤ T.length
        · simp (disch := first | (with_reducible assumption) | (simp only [oi_si, oi_sl, oi_sa, oi_sm, oi_sv, oi_sq, ol_si, ol_sl, ol_sa, ol_sm, ol_sv, ol_sq, oa_si, oa_sl, oa_sa, oa_sm, oa_sv, oa_sq, om_si, om_sl, om_sa, om_sm, om_sv, om_sq, ov_si, ov_sl, ov_sa, ov_sm, ov_sv, ov_sq, oq_si, oq_sl, oq_sa, oq_sm, oq_sv, oq_sq, Nat.reduceEqDiff, ↓reduceIte]; done) | omega | (exact ixn (by omega) (by omega)) | (exact ixl (by decide) (by decide)) | (simp only [pt_len, pl, z0, z1, z2, z3, z4, z5, z6, z7, z8, z9, z10, z11, z12]; omega)) only [↓gb_m, ↓gc_m, ↓gl_s, ↓gg_m, gb_s, gc_s, gg_t, gqm_0, gqm_1, pt_pt, sa_sa, sm_sm, si_si, qk12, qg12_0, qs12_0, qg12_1, qg12_2, qs12_2, qg12_3, qs12_3, qg12_4, qg12_5, qg12_6, qg12_7, qs12_7, qg12_8, qs12_8, qg12_9, qg12_10, qg12_11, qg12_12, qg12_13, qs12_13, qg12_14, qg12_15, qg12_16, qg12_17, qg12_18, qs12_18, qg12_19, qg12_20, qg12_21, qg12_22, qg12_23, qs12_23, qg12_24, qs12_24, qg12_25, qs12_25, qg12_26, qs12_26, qg12_27, qs12_27, qg12_28, qs12_28, qg12_29, qg12_30, qs12_30, qg12_31, qg12_32, qg12_33, qg12_34, qg12_35, qg12_36, qs12_36, qg12_37, qs12_37, qg12_38, qs12_38, qg12_39, qs12_39, qg12_40, qs12_40, qg12_41, qg12_42, qs12_42, qg12_43, qs12_43, qg12_44, qs12_44, qg12_45, qs12_45, qg12_46, qs12_46, qg12_47, qa12_1, qe12_1, ql12_1, qa12_4, qe12_4, ql12_4, qa12_5, qe12_5, ql12_5, qa12_6, qe12_6, ql12_6, qa12_9, qe12_9, ql12_9, qa12_10, qe12_10, ql12_10, qa12_11, qe12_11, ql12_11, qa12_12, qe12_12, ql12_12, qa12_14, qe12_14, ql12_14, qa12_15, qe12_15, ql12_15, qa12_16, qe12_16, ql12_16, qa12_17, qe12_17, ql12_17, qa12_19, qe12_19, ql12_19, qa12_20, qe12_20, ql12_20, qa12_21, qe12_21, ql12_21, qa12_22, qe12_22, ql12_22, qa12_29, qe12_29, ql12_29, qa12_31, qe12_31, ql12_31, qa12_32, qe12_32, ql12_32, qa12_33, qe12_33, ql12_33, qa12_34, qe12_34, ql12_34, qa12_35, qe12_35, ql12_35, qa12_41, qe12_41, ql12_41, qa12_47, qe12_47, ql12_47, oi_si, oi_sl, oi_sa, oi_sm, oi_sv, oi_sq, ol_si, ol_sl, ol_sa, ol_sm, ol_sv, ol_sq, oa_si, oa_sl, oa_sa, oa_sm, oa_sv, oa_sq, om_si, om_sl, om_sa, om_sm, om_sv, om_sq, ov_si, ov_sl, ov_sa, ov_sm, ov_sv, ov_sq, oq_si, oq_sl, oq_sa, oq_sm, oq_sv, oq_sq, Nat.reduceEqDiff, ↓reduceIte, n_add, n_addl, n_ladd, n_add1, n_mul, n_lmul, n_mull, n_sub, n_subl, n_subm, n_lt, n_le, n_eq, n_ltl, n_llt, n_lel, n_lle, n_eql, n_leq, n_m1, n_m1l, n_lt0, n_ge0, i_okc, i_okl, if_true, if_false, not_true, not_false, Nat.not_lt_zero, Nat.zero_le, hR.1, ql]
          rw [b2]
          exact nx M T (sk (Or.inr ql)) Keep.rf hR
        · simp (disch := first | (with_reducible assumption) | (simp only [oi_si, oi_sl, oi_sa, oi_sm, oi_sv, oi_sq, ol_si, ol_sl, ol_sa, ol_sm, ol_sv, ol_sq, oa_si, oa_sl, oa_sa, oa_sm, oa_sv, oa_sq, om_si, om_sl, om_sa, om_sm, om_sv, om_sq, ov_si, ov_sl, ov_sa, ov_sm, ov_sv, ov_sq, oq_si, oq_sl, oq_sa, oq_sm, oq_sv, oq_sq, Nat.reduceEqDiff, ↓reduceIte]; done) | omega | (exact ixn (by omega) (by omega)) | (exact ixl (by decide) (by decide)) | (simp only [pt_len, pl, z0, z1, z2, z3, z4, z5, z6, z7, z8, z9, z10, z11, z12]; omega)) only [↓gb_m, ↓gc_m, ↓gl_s, ↓gg_m, gb_s, gc_s, gg_t, gqm_0, gqm_1, pt_pt, sa_sa, sm_sm, si_si, qk12, qg12_0, qs12_0, qg12_1, qg12_2, qs12_2, qg12_3, qs12_3, qg12_4, qg12_5, qg12_6, qg12_7, qs12_7, qg12_8, qs12_8, qg12_9, qg12_10, qg12_11, qg12_12, qg12_13, qs12_13, qg12_14, qg12_15, qg12_16, qg12_17, qg12_18, qs12_18, qg12_19, qg12_20, qg12_21, qg12_22, qg12_23, qs12_23, qg12_24, qs12_24, qg12_25, qs12_25, qg12_26, qs12_26, qg12_27, qs12_27, qg12_28, qs12_28, qg12_29, qg12_30, qs12_30, qg12_31, qg12_32, qg12_33, qg12_34, qg12_35, qg12_36, qs12_36, qg12_37, qs12_37, qg12_38, qs12_38, qg12_39, qs12_39, qg12_40, qs12_40, qg12_41, qg12_42, qs12_42, qg12_43, qs12_43, qg12_44, qs12_44, qg12_45, qs12_45, qg12_46, qs12_46, qg12_47, qa12_1, qe12_1, ql12_1, qa12_4, qe12_4, ql12_4, qa12_5, qe12_5, ql12_5, qa12_6, qe12_6, ql12_6, qa12_9, qe12_9, ql12_9, qa12_10, qe12_10, ql12_10, qa12_11, qe12_11, ql12_11, qa12_12, qe12_12, ql12_12, qa12_14, qe12_14, ql12_14, qa12_15, qe12_15, ql12_15, qa12_16, qe12_16, ql12_16, qa12_17, qe12_17, ql12_17, qa12_19, qe12_19, ql12_19, qa12_20, qe12_20, ql12_20, qa12_21, qe12_21, ql12_21, qa12_22, qe12_22, ql12_22, qa12_29, qe12_29, ql12_29, qa12_31, qe12_31, ql12_31, qa12_32, qe12_32, ql12_32, qa12_33, qe12_33, ql12_33, qa12_34, qe12_34, ql12_34, qa12_35, qe12_35, ql12_35, qa12_41, qe12_41, ql12_41, qa12_47, qe12_47, ql12_47, oi_si, oi_sl, oi_sa, oi_sm, oi_sv, oi_sq, ol_si, ol_sl, ol_sa, ol_sm, ol_sv, ol_sq, oa_si, oa_sl, oa_sa, oa_sm, oa_sv, oa_sq, om_si, om_sl, om_sa, om_sm, om_sv, om_sq, ov_si, ov_sl, ov_sa, ov_sm, ov_sv, ov_sq, oq_si, oq_sl, oq_sa, oq_sm, oq_sv, oq_sq, Nat.reduceEqDiff, ↓reduceIte, n_add, n_addl, n_ladd, n_add1, n_mul, n_lmul, n_mull, n_sub, n_subl, n_subm, n_lt, n_le, n_eq, n_ltl, n_llt, n_lel, n_lle, n_eql, n_leq, n_m1, n_m1l, n_lt0, n_ge0, i_okc, i_okl, if_true, if_false, not_true, not_false, Nat.not_lt_zero, Nat.zero_le, hR.1, ql, gnar_0]
          rw [b2]
          refine nx _ (T ++ [c]) ?_ ?_ ?_
          · unfold laC
            rw [if_pos]
            rw [ok]
            simp
            omega
          · (repeat (first | exact Keep.rf | assumption | refine k_si2 ?_ (by decide) | refine k_sa2 ?_ (by decide) | refine k_sm2 ?_ (by decide) | refine k_sl2 ?_ (by decide) | refine k_sv2 ?_ (by decide)))
          · refine ⟨?_, ?_⟩
            · simp only [oi_si, oi_sl, oi_sa, oi_sm, oi_sv, oi_sq, ol_si, ol_sl, ol_sa, ol_sm, ol_sv, ol_sq, oa_si, oa_sl, oa_sa, oa_sm, oa_sv, oa_sq, om_si, om_sl, om_sa, om_sm, om_sv, om_sq, ov_si, ov_sl, ov_sa, ov_sm, ov_sv, ov_sq, oq_si, oq_sl, oq_sa, oq_sm, oq_sv, oq_sq, Nat.reduceEqDiff, ↓reduceIte, List.length_append, List.length_singleton]
            · intro k x hx
              simp only [oi_si, oi_sl, oi_sa, oi_sm, oi_sv, oi_sq, ol_si, ol_sl, ol_sa, ol_sm, ol_sv, ol_sq, oa_si, oa_sl, oa_sa, oa_sm, oa_sv, oa_sq, om_si, om_sl, om_sa, om_sm, om_sv, om_sq, ov_si, ov_sl, ov_sa, ov_sm, ov_sv, ov_sq, oq_si, oq_sl, oq_sa, oq_sm, oq_sv, oq_sq, Nat.reduceEqDiff, ↓reduceIte]
              rw [upd_at]
              rcases Nat.lt_or_ge k T.length with z | z
              · rw [List.getElem?_append_left z] at hx
                rw [if_neg (by omega)]
                exact hR.2 k x hx
              · have hk := ln_of hx
                rw [List.length_append] at hk
                have hk : k < T.length + 1 := hk
                have hk : k = T.length := by omega
                subst hk
                rw [List.getElem?_append_right (Nat.le_refl _), Nat.sub_self] at hx
                cases hx
                rw [if_pos rfl]
      unfold f_X12_lay_3
      simp (disch := first | (with_reducible assumption) | (simp only [oi_si, oi_sl, oi_sa, oi_sm, oi_sv, oi_sq, ol_si, ol_sl, ol_sa, ol_sm, ol_sv, ol_sq, oa_si, oa_sl, oa_sa, oa_sm, oa_sv, oa_sq, om_si, om_sl, om_sa, om_sm, om_sv, om_sq, ov_si, ov_sl, ov_sa, ov_sm, ov_sv, ov_sq, oq_si, oq_sl, oq_sa, oq_sm, oq_sv, oq_sq, Nat.reduceEqDiff, ↓reduceIte]; done) | omega | (exact ixn (by omega) (by omega)) | (exact ixl (by decide) (by decide)) | (simp only [pt_len, pl, z0, z1, z2, z3, z4, z5, z6, z7, z8, z9, z10, z11, z12]; omega)) only [↓gb_m, ↓gc_m, ↓gl_s, ↓gg_m, gb_s, gc_s, gg_t, gqm_0, gqm_1, pt_pt, sa_sa, sm_sm, si_si, qk12, qg12_0, qs12_0, qg12_1, qg12_2, qs12_2, qg12_3, qs12_3, qg12_4, qg12_5, qg12_6, qg12_7, qs12_7, qg12_8, qs12_8, qg12_9, qg12_10, qg12_11, qg12_12, qg12_13, qs12_13, qg12_14, qg12_15, qg12_16, qg12_17, qg12_18, qs12_18, qg12_19, qg12_20, qg12_21, qg12_22, qg12_23, qs12_23, qg12_24, qs12_24, qg12_25, qs12_25, qg12_26, qs12_26, qg12_27, qs12_27, qg12_28, qs12_28, qg12_29, qg12_30, qs12_30, qg12_31, qg12_32, qg12_33, qg12_34, qg12_35, qg12_36, qs12_36, qg12_37, qs12_37, qg12_38, qs12_38, qg12_39, qs12_39, qg12_40, qs12_40, qg12_41, qg12_42, qs12_42, qg12_43, qs12_43, qg12_44, qs12_44, qg12_45, qs12_45, qg12_46, qs12_46, qg12_47, qa12_1, qe12_1, ql12_1, qa12_4, qe12_4, ql12_4, qa12_5, qe12_5, ql12_5, qa12_6, qe12_6, ql12_6, qa12_9, qe12_9, ql12_9, qa12_10, qe12_10, ql12_10, qa12_11, qe12_11, ql12_11, qa12_12, qe12_12, ql12_12, qa12_14, qe12_14, ql12_14, qa12_15, qe12_15, ql12_15, qa12_16, qe12_16, ql12_16, qa12_17, qe12_17, ql12_17, qa12_19, qe12_19, ql12_19, qa12_20, qe12_20, ql12_20, qa12_21, qe12_21, ql12_21, qa12_22, qe12_22, ql12_22, qa12_29, qe12_29, ql12_29, qa12_31, qe12_31, ql12_31, qa12_32, qe12_32, ql12_32, qa12_33, qe12_33, ql12_33, qa12_34, qe12_34, ql12_34, qa12_35, qe12_35, ql12_35, qa12_41, qe12_41, ql12_41, qa12_47, qe12_47, ql12_47, oi_si, oi_sl, oi_sa, oi_sm, oi_sv, oi_sq, ol_si, ol_sl, ol_sa, ol_sm, ol_sv, ol_sq, oa_si, oa_sl, oa_sa, oa_sm, oa_sv, oa_sq, om_si, om_sl, om_sa, om_sm, om_sv, om_sq, ov_si, ov_sl, ov_sa, ov_sm, ov_sv, ov_sq, oq_si, oq_sl, oq_sa, oq_sm, oq_sv, oq_sq, Nat.reduceEqDiff, ↓reduceIte, n_add, n_addl, n_ladd, n_add1, n_mul, n_lmul, n_mull, n_sub, n_subl, n_subm, n_lt, n_le, n_eq, n_ltl, n_llt, n_lel, n_lle, n_eql, n_leq, n_m1, n_m1l, n_lt0, n_ge0, i_okc, i_okl, if_true, if_false, not_true, not_false, Nat.not_lt_zero, Nat.zero_le, ec]
      by_cases q1 : c = 10
      · rw [if_pos q1]
        exact put (okC_iff.mpr (Or.inl q1))
      · rw [if_neg q1]
        by_cases q2 : c < 32
        · rw [if_pos q2, b2]
          exact nx M T (sk (Or.inl (by rw [← Bool.not_eq_true, okC_iff]; omega))) Keep.rf hR
        · rw [if_neg q2]
          by_cases q3 : 126 < c
          · rw [if_pos q3, b2]
            exact nx M T (sk (Or.inl (by rw [← Bool.not_eq_true, okC_iff]; omega))) Keep.rf hR
          · rw [if_neg q3]
            exact put (okC_iff.mpr (Or.inr ⟨by omega, by omega⟩))
  exact key 8 N M T (by omega) (by omega) hT hR
theorem m_feed (hN : 2000 ≤ N) (hA' : AOk A) (a b c : Int64) : MAns A (feedS A a b c) (f_X12_feed N 80 a b c) (Int32.ofNat (aT (feedS A a b c)).length) := by
  intro M h hF hM'
  have t0 : TOk (aT A) := ⟨hA'.2.2.1, hA'.2.2.2.1⟩
  have r0 : RepT (aT A) (si M 0 0) := ⟨hM'.2.2.2.2.1, hM'.2.2.2.2.2.1⟩
  obtain ⟨M1, e1, e2, e3⟩ := m_lay (N := N) hF hN a t0 r0
  obtain ⟨M2, f1, f2, f3⟩ := m_lay (N := N) hF hN b (layL_ok _ t0) e3
  obtain ⟨M3, g1, g2, g3⟩ := m_lay (N := N) hF hN c (layL_ok _ (layL_ok _ t0)) f3
  refine ⟨M3, ?_, ?_⟩
  · unfold f_X12_feed
    simp (disch := first | (with_reducible assumption) | (simp only [oi_si, oi_sl, oi_sa, oi_sm, oi_sv, oi_sq, ol_si, ol_sl, ol_sa, ol_sm, ol_sv, ol_sq, oa_si, oa_sl, oa_sa, oa_sm, oa_sv, oa_sq, om_si, om_sl, om_sa, om_sm, om_sv, om_sq, ov_si, ov_sl, ov_sa, ov_sm, ov_sv, ov_sq, oq_si, oq_sl, oq_sa, oq_sm, oq_sv, oq_sq, Nat.reduceEqDiff, ↓reduceIte]; done) | omega | (exact ixn (by omega) (by omega)) | (exact ixl (by decide) (by decide)) | (simp only [pt_len, pl, z0, z1, z2, z3, z4, z5, z6, z7, z8, z9, z10, z11, z12]; omega)) only [↓gb_m, ↓gc_m, ↓gl_s, ↓gg_m, gb_s, gc_s, gg_t, gqm_0, gqm_1, pt_pt, sa_sa, sm_sm, si_si, qk12, qg12_0, qs12_0, qg12_1, qg12_2, qs12_2, qg12_3, qs12_3, qg12_4, qg12_5, qg12_6, qg12_7, qs12_7, qg12_8, qs12_8, qg12_9, qg12_10, qg12_11, qg12_12, qg12_13, qs12_13, qg12_14, qg12_15, qg12_16, qg12_17, qg12_18, qs12_18, qg12_19, qg12_20, qg12_21, qg12_22, qg12_23, qs12_23, qg12_24, qs12_24, qg12_25, qs12_25, qg12_26, qs12_26, qg12_27, qs12_27, qg12_28, qs12_28, qg12_29, qg12_30, qs12_30, qg12_31, qg12_32, qg12_33, qg12_34, qg12_35, qg12_36, qs12_36, qg12_37, qs12_37, qg12_38, qs12_38, qg12_39, qs12_39, qg12_40, qs12_40, qg12_41, qg12_42, qs12_42, qg12_43, qs12_43, qg12_44, qs12_44, qg12_45, qs12_45, qg12_46, qs12_46, qg12_47, qa12_1, qe12_1, ql12_1, qa12_4, qe12_4, ql12_4, qa12_5, qe12_5, ql12_5, qa12_6, qe12_6, ql12_6, qa12_9, qe12_9, ql12_9, qa12_10, qe12_10, ql12_10, qa12_11, qe12_11, ql12_11, qa12_12, qe12_12, ql12_12, qa12_14, qe12_14, ql12_14, qa12_15, qe12_15, ql12_15, qa12_16, qe12_16, ql12_16, qa12_17, qe12_17, ql12_17, qa12_19, qe12_19, ql12_19, qa12_20, qe12_20, ql12_20, qa12_21, qe12_21, ql12_21, qa12_22, qe12_22, ql12_22, qa12_29, qe12_29, ql12_29, qa12_31, qe12_31, ql12_31, qa12_32, qe12_32, ql12_32, qa12_33, qe12_33, ql12_33, qa12_34, qe12_34, ql12_34, qa12_35, qe12_35, ql12_35, qa12_41, qe12_41, ql12_41, qa12_47, qe12_47, ql12_47, oi_si, oi_sl, oi_sa, oi_sm, oi_sv, oi_sq, ol_si, ol_sl, ol_sa, ol_sm, ol_sv, ol_sq, oa_si, oa_sl, oa_sa, oa_sm, oa_sv, oa_sq, om_si, om_sl, om_sa, om_sm, om_sv, om_sq, ov_si, ov_sl, ov_sa, ov_sm, ov_sv, ov_sq, oq_si, oq_sl, oq_sa, oq_sm, oq_sv, oq_sq, Nat.reduceEqDiff, ↓reduceIte, n_add, n_addl, n_ladd, n_add1, n_mul, n_lmul, n_mull, n_sub, n_subl, n_subm, n_lt, n_le, n_eq, n_ltl, n_llt, n_lel, n_lle, n_eql, n_leq, n_m1, n_m1l, n_lt0, n_ge0, i_okc, i_okl, if_true, if_false, not_true, not_false, Nat.not_lt_zero, Nat.zero_le, e1, f1, g1, g3.1]
    rfl
  · have hk : Keep [0, 1, 2] M M3 := (k_si (by decide)).tr ((e2.up (by decide)).tr ((f2.up (by decide)).tr (g2.up (by decide))))
    obtain ⟨q1, q2, q3, q4, q5, q6, q7⟩ := hM'
    refine ⟨q1.kp hk (by decide) (by decide) (by decide), ?_, ?_, ?_, g3.1, g3.2, ?_⟩
    · rw [hk.a (by decide)]; exact q2
    · rw [hk.i (by decide)]
      exact fun z => (q3 z).kp hk (by decide)
    · rw [hk.a (by decide), hk.a (by decide)]; exact q4
    · rw [hk.m (by decide)]; exact q7
end MFeed

