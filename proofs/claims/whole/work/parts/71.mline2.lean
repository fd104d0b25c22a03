/-! The model reads a guest, a rule, a line: whole -/
theorem DR.guest {s : PS} {M M' : OD} (hD : DR s M) (hs : PSk s) (hn : s.2.1.length < 10) (hx : GX s.2.1.length M M') {w : List Nat} {v : Nat} {b i : Bool} (h1 : oa M' 10 61 = Int32.ofNat (s.2.1.length + 1)) (h2 : oa M' 10 (83 + 3 * s.2.1.length) = Int32.ofNat v) (h3 : oa M' 10 (83 + 3 * s.2.1.length + 1) = eB b) (h4 : oa M' 10 (83 + 3 * s.2.1.length + 2) = eB i) (h5 : om M' 14 s.2.1.length = Int64.ofNat (v37 w)) : DR (s.1, s.2.1 ++ [(w, v, b, i)], s.2.2) M' := by
  obtain ⟨e1, e2, e3, e4, e5, e6, e7, e8⟩ := hD
  obtain ⟨s1, s2, s3, _⟩ := hs
  obtain ⟨x1, x2, x3⟩ := hx
  refine ⟨?_, ?_, ?_, ?_, ?_, ?_, ?_, ?_⟩
  · rw [x2 60 (by omega) (by omega)]
    exact e1
  · rw [h1]
    show _ = Int32.ofNat (s.2.1 ++ [(w, v, b, i)]).length
    rw [List.length_append]
    rfl
  · rw [x2 62 (by omega) (by omega)]
    exact e3
  · intro r z hz
    have := ln_of hz
    have this : r < s.1.length := this
    rw [x2 _ (by omega) (by omega), x2 _ (by omega) (by omega)]
    exact e4 r z hz
  · intro g z hz
    have hz : (s.2.1 ++ [(w, v, b, i)])[g]? = some z := hz
    rcases Nat.lt_or_ge g s.2.1.length with u | u
    · rw [List.getElem?_append_left u] at hz
      rw [x2 _ (by omega) (by omega), x2 _ (by omega) (by omega), x2 _ (by omega) (by omega), x3 g (by omega)]
      exact e5 g z hz
    · have u2 := ln_of hz
      rw [List.length_append] at u2
      have u2 : g < s.2.1.length + 1 := u2
      have ur : g = s.2.1.length := by omega
      subst ur
      rw [List.getElem?_append_right (Nat.le_refl _), Nat.sub_self] at hz
      cases hz
      exact ⟨h2, h3, h4, h5⟩
  · intro g g1 g2
    have g1 : (s.2.1 ++ [(w, v, b, i)]).length ≤ g := g1
    rw [List.length_append] at g1
    have g1 : s.2.1.length + 1 ≤ g := g1
    rw [x2 _ (by omega) (by omega), x2 _ (by omega) (by omega)]
    exact e6 g (by omega) g2
  · intro k hk
    have hk : k < s.2.2.length := hk
    rw [x2 _ (by omega) (by omega)]
    exact e7 k hk
  · unfold CR
    rw [x1.i (by decide), x1.a (by decide), x1.a (by decide)]
    exact e8
section MLine2
variable {N : Nat} {h : PH}
theorem m_rg44F (hF : 80 + 25 ≤ h.length) {f : Nat} {M : OD} (q : PF f M) {a b : Int32} {m : Nat} : gi (fun zk zs => f_X12_readGuest_44 N zk zs.1 zs.2.1 zs.2.2.1 zs.2.2.2) (m + 1) (80, a, b, pt sX12 80 M h) = some (pt sX12 80 M h) := by
  have n1 := q.n0.1
  have n2 := q.n0.2
  rw [gi_1]
  generalize hz : gi _ m = zk
  dsimp only
  unfold f_X12_readGuest_44 f_X12_readGuest_86
  by_cases c : a ≤ b
  · simp (disch := first | (with_reducible assumption) | (simp only [oi_si, oi_sl, oi_sa, oi_sm, oi_sv, oi_sq, ol_si, ol_sl, ol_sa, ol_sm, ol_sv, ol_sq, oa_si, oa_sl, oa_sa, oa_sm, oa_sv, oa_sq, om_si, om_sl, om_sa, om_sm, om_sv, om_sq, ov_si, ov_sl, ov_sa, ov_sm, ov_sv, ov_sq, oq_si, oq_sl, oq_sa, oq_sm, oq_sv, oq_sq, Nat.reduceEqDiff, ↓reduceIte]; done) | omega | (exact ixn (by omega) (by omega)) | (exact ixl (by decide) (by decide)) | (simp only [pt_len, pl, z0, z1, z2, z3, z4, z5, z6, z7, z8, z9, z10, z11, z12]; omega)) only [↓gb_m, ↓gc_m, ↓gl_s, ↓gg_m, gb_s, gc_s, gg_t, gqm_0, gqm_1, pt_pt, sa_sa, sm_sm, si_si, qk12, qg12_0, qs12_0, qg12_1, qg12_2, qs12_2, qg12_3, qs12_3, qg12_4, qg12_5, qg12_6, qg12_7, qs12_7, qg12_8, qs12_8, qg12_9, qg12_10, qg12_11, qg12_12, qg12_13, qs12_13, qg12_14, qg12_15, qg12_16, qg12_17, qg12_18, qs12_18, qg12_19, qg12_20, qg12_21, qg12_22, qg12_23, qs12_23, qg12_24, qs12_24, qg12_25, qs12_25, qg12_26, qs12_26, qg12_27, qs12_27, qg12_28, qs12_28, qg12_29, qg12_30, qs12_30, qg12_31, qg12_32, qg12_33, qg12_34, qg12_35, qg12_36, qs12_36, qg12_37, qs12_37, qg12_38, qs12_38, qg12_39, qs12_39, qg12_40, qs12_40, qg12_41, qg12_42, qs12_42, qg12_43, qs12_43, qg12_44, qs12_44, qg12_45, qs12_45, qg12_46, qs12_46, qg12_47, qa12_1, qe12_1, ql12_1, qa12_4, qe12_4, ql12_4, qa12_5, qe12_5, ql12_5, qa12_6, qe12_6, ql12_6, qa12_9, qe12_9, ql12_9, qa12_10, qe12_10, ql12_10, qa12_11, qe12_11, ql12_11, qa12_12, qe12_12, ql12_12, qa12_14, qe12_14, ql12_14, qa12_15, qe12_15, ql12_15, qa12_16, qe12_16, ql12_16, qa12_17, qe12_17, ql12_17, qa12_19, qe12_19, ql12_19, qa12_20, qe12_20, ql12_20, qa12_21, qe12_21, ql12_21, qa12_22, qe12_22, ql12_22, qa12_29, qe12_29, ql12_29, qa12_31, qe12_31, ql12_31, qa12_32, qe12_32, ql12_32, qa12_33, qe12_33, ql12_33, qa12_34, qe12_34, ql12_34, qa12_35, qe12_35, ql12_35, qa12_41, qe12_41, ql12_41, qa12_47, qe12_47, ql12_47, oi_si, oi_sl, oi_sa, oi_sm, oi_sv, oi_sq, ol_si, ol_sl, ol_sa, ol_sm, ol_sv, ol_sq, oa_si, oa_sl, oa_sa, oa_sm, oa_sv, oa_sq, om_si, om_sl, om_sa, om_sm, om_sv, om_sq, ov_si, ov_sl, ov_sa, ov_sm, ov_sv, ov_sq, oq_si, oq_sl, oq_sa, oq_sm, oq_sv, oq_sq, Nat.reduceEqDiff, ↓reduceIte, n_add, n_addl, n_ladd, n_add1, n_mul, n_lmul, n_mull, n_sub, n_subl, n_subm, n_lt, n_le, n_eq, n_ltl, n_llt, n_lel, n_lle, n_eql, n_leq, n_m1, n_m1l, n_lt0, n_ge0, i_okc, i_okl, if_true, if_false, not_true, not_false, Nat.not_lt_zero, Nat.zero_le, c, n1, n2]
  · simp (disch := first | (with_reducible assumption) | (simp only [oi_si, oi_sl, oi_sa, oi_sm, oi_sv, oi_sq, ol_si, ol_sl, ol_sa, ol_sm, ol_sv, ol_sq, oa_si, oa_sl, oa_sa, oa_sm, oa_sv, oa_sq, om_si, om_sl, om_sa, om_sm, om_sv, om_sq, ov_si, ov_sl, ov_sa, ov_sm, ov_sv, ov_sq, oq_si, oq_sl, oq_sa, oq_sm, oq_sv, oq_sq, Nat.reduceEqDiff, ↓reduceIte]; done) | omega | (exact ixn (by omega) (by omega)) | (exact ixl (by decide) (by decide)) | (simp only [pt_len, pl, z0, z1, z2, z3, z4, z5, z6, z7, z8, z9, z10, z11, z12]; omega)) only [↓gb_m, ↓gc_m, ↓gl_s, ↓gg_m, gb_s, gc_s, gg_t, gqm_0, gqm_1, pt_pt, sa_sa, sm_sm, si_si, qk12, qg12_0, qs12_0, qg12_1, qg12_2, qs12_2, qg12_3, qs12_3, qg12_4, qg12_5, qg12_6, qg12_7, qs12_7, qg12_8, qs12_8, qg12_9, qg12_10, qg12_11, qg12_12, qg12_13, qs12_13, qg12_14, qg12_15, qg12_16, qg12_17, qg12_18, qs12_18, qg12_19, qg12_20, qg12_21, qg12_22, qg12_23, qs12_23, qg12_24, qs12_24, qg12_25, qs12_25, qg12_26, qs12_26, qg12_27, qs12_27, qg12_28, qs12_28, qg12_29, qg12_30, qs12_30, qg12_31, qg12_32, qg12_33, qg12_34, qg12_35, qg12_36, qs12_36, qg12_37, qs12_37, qg12_38, qs12_38, qg12_39, qs12_39, qg12_40, qs12_40, qg12_41, qg12_42, qs12_42, qg12_43, qs12_43, qg12_44, qs12_44, qg12_45, qs12_45, qg12_46, qs12_46, qg12_47, qa12_1, qe12_1, ql12_1, qa12_4, qe12_4, ql12_4, qa12_5, qe12_5, ql12_5, qa12_6, qe12_6, ql12_6, qa12_9, qe12_9, ql12_9, qa12_10, qe12_10, ql12_10, qa12_11, qe12_11, ql12_11, qa12_12, qe12_12, ql12_12, qa12_14, qe12_14, ql12_14, qa12_15, qe12_15, ql12_15, qa12_16, qe12_16, ql12_16, qa12_17, qe12_17, ql12_17, qa12_19, qe12_19, ql12_19, qa12_20, qe12_20, ql12_20, qa12_21, qe12_21, ql12_21, qa12_22, qe12_22, ql12_22, qa12_29, qe12_29, ql12_29, qa12_31, qe12_31, ql12_31, qa12_32, qe12_32, ql12_32, qa12_33, qe12_33, ql12_33, qa12_34, qe12_34, ql12_34, qa12_35, qe12_35, ql12_35, qa12_41, qe12_41, ql12_41, qa12_47, qe12_47, ql12_47, oi_si, oi_sl, oi_sa, oi_sm, oi_sv, oi_sq, ol_si, ol_sl, ol_sa, ol_sm, ol_sv, ol_sq, oa_si, oa_sl, oa_sa, oa_sm, oa_sv, oa_sq, om_si, om_sl, om_sa, om_sm, om_sv, om_sq, ov_si, ov_sl, ov_sa, ov_sm, ov_sv, ov_sq, oq_si, oq_sl, oq_sa, oq_sm, oq_sv, oq_sq, Nat.reduceEqDiff, ↓reduceIte, n_add, n_addl, n_ladd, n_add1, n_mul, n_lmul, n_mull, n_sub, n_subl, n_subm, n_lt, n_le, n_eq, n_ltl, n_llt, n_lel, n_lle, n_eql, n_leq, n_m1, n_m1l, n_lt0, n_ge0, i_okc, i_okl, if_true, if_false, not_true, not_false, Nat.not_lt_zero, Nat.zero_le, c, n1, n2]
theorem m_rg44 (hF : 80 + 25 ≤ h.length) {TS ts : List Tok} {M : OD} (hP : PM TS ts M) (hw : (hd ts).1 = 1) {l : List (List Nat)} (hl : l.length ≤ 10) (hl2 : ∀ x, x ∈ l → x.length ≤ 8 ∧ ∀ c, c ∈ x → 97 ≤ c ∧ c ≤ 122) (hR : ∀ (g : Nat) (x : List Nat), l[g]? = some x → om M 14 g = Int64.ofNat (v37 x)) : ∀ n k m, k + n = l.length → n + 1 < m →
    gi (fun zk zs => f_X12_readGuest_44 N zk zs.1 zs.2.1 zs.2.2.1 zs.2.2.2) m (80, Int32.ofNat l.length, Int32.ofNat k, pt sX12 80 M h) = if (l.drop k).contains (hd ts).2.2 then some (pt sX12 80 (si M 8 (Int32.ofNat (flt 3 ts))) h) else f_X12_readGuest_86 N 80 (Int32.ofNat l.length) (pt sX12 80 M h) := by
  obtain ⟨h1, h2, h3, h4⟩ := hP.hx
  have hp := hP.2.1.hd.1
  have q4 := hP.2.2.2.1
  have q5 := hP.2.2.2.2.1
  have q6 := hP.2.2.2.2.2.1
  obtain ⟨wr1, wr2⟩ := m_wrong (N := N) hF hP (k := 3) (by omega) (by omega)
  have wr1 : f_X12_wrong N 80 3 (pt sX12 80 M h) = _ := wr1
  have w := hp.2.1 hw
  have e6 := h4.2.2.1 hw
  intro n
  induction n with
  | zero =>
    intro k m hk hm
    have : k = l.length := by omega
    subst this
    rw [List.drop_length]
    obtain ⟨m, rfl⟩ : ∃ k, m = k + 1 := ⟨m - 1, by omega⟩
    rw [gi_1]
    generalize hz : gi _ m = zk
    dsimp only
    unfold f_X12_readGuest_44
    have cl : (Int32.ofNat l.length ≤ Int32.ofNat l.length) = True := by
      rw [n_le (by omega) (by omega)]
      exact eq_true (Nat.le_refl _)
    simp only [cl, if_true]
    rfl
  | succ n ih =>
    intro k m hk hm
    have hkl : k < l.length := by omega
    obtain ⟨x, hx⟩ : ∃ x, l[k]? = some x := ⟨l[k], List.getElem?_eq_getElem hkl⟩
    have ed : l.drop k = x :: l.drop (k + 1) := by
      rw [List.drop_eq_getElem_cons hkl]
      rw [List.getElem?_eq_getElem hkl] at hx
      cases hx
      rfl
    have xl := hl2 x (List.mem_of_getElem? hx)
    have ex := hR k x hx
    have ce := cmp_eq (v37_le xl.1 xl.2) (v37_le w.1 w.2.2)
    have f1 := m_rg44F (N := N) hF wr2 (a := Int32.ofNat l.length) (b := Int32.ofNat (k + 1)) (m := m - 2)
    have ih2 := ih (k + 1) (m - 1) (by omega) (by omega)
    rw [show m - 2 + 1 = m - 1 by omega] at f1
    obtain ⟨m, rfl⟩ : ∃ k, m = k + 1 := ⟨m - 1, by omega⟩
    rw [gi_1]
    generalize hz : gi _ m = zk
    dsimp only
    rw [show m + 1 - 1 = m by omega, hz] at f1 ih2
    unfold f_X12_readGuest_44 f_X12_readGuest_80
    have cl : (Int32.ofNat l.length ≤ Int32.ofNat k) = False := by
      rw [n_le (by omega) (by omega)]
      exact eq_false (by omega)
    rw [ed, List.contains_cons]
    by_cases c2 : (hd ts).2.2 = x
    · have c3 : (lg_cmp (Int64.ofNat (v37 x)) (Int64.ofNat (v37 (hd ts).2.2)) = 0) = True := by
        rw [ce]
        exact eq_true (by rw [c2])
      have c5 : ((hd ts).2.2 == x || (l.drop (k + 1)).contains (hd ts).2.2) = true := by rw [beq_iff_eq.mpr c2, Bool.true_or]
      rw [if_pos c5]
      simp (disch := first | (with_reducible assumption) | (simp only [oi_si, oi_sl, oi_sa, oi_sm, oi_sv, oi_sq, ol_si, ol_sl, ol_sa, ol_sm, ol_sv, ol_sq, oa_si, oa_sl, oa_sa, oa_sm, oa_sv, oa_sq, om_si, om_sl, om_sa, om_sm, om_sv, om_sq, ov_si, ov_sl, ov_sa, ov_sm, ov_sv, ov_sq, oq_si, oq_sl, oq_sa, oq_sm, oq_sv, oq_sq, Nat.reduceEqDiff, ↓reduceIte]; done) | omega | (exact ixn (by omega) (by omega)) | (exact ixl (by decide) (by decide)) | (simp only [pt_len, pl, z0, z1, z2, z3, z4, z5, z6, z7, z8, z9, z10, z11, z12]; omega)) only [↓gb_m, ↓gc_m, ↓gl_s, ↓gg_m, gb_s, gc_s, gg_t, gqm_0, gqm_1, pt_pt, sa_sa, sm_sm, si_si, qk12, qg12_0, qs12_0, qg12_1, qg12_2, qs12_2, qg12_3, qs12_3, qg12_4, qg12_5, qg12_6, qg12_7, qs12_7, qg12_8, qs12_8, qg12_9, qg12_10, qg12_11, qg12_12, qg12_13, qs12_13, qg12_14, qg12_15, qg12_16, qg12_17, qg12_18, qs12_18, qg12_19, qg12_20, qg12_21, qg12_22, qg12_23, qs12_23, qg12_24, qs12_24, qg12_25, qs12_25, qg12_26, qs12_26, qg12_27, qs12_27, qg12_28, qs12_28, qg12_29, qg12_30, qs12_30, qg12_31, qg12_32, qg12_33, qg12_34, qg12_35, qg12_36, qs12_36, qg12_37, qs12_37, qg12_38, qs12_38, qg12_39, qs12_39, qg12_40, qs12_40, qg12_41, qg12_42, qs12_42, qg12_43, qs12_43, qg12_44, qs12_44, qg12_45, qs12_45, qg12_46, qs12_46, qg12_47, qa12_1, qe12_1, ql12_1, qa12_4, qe12_4, ql12_4, qa12_5, qe12_5, ql12_5, qa12_6, qe12_6, ql12_6, qa12_9, qe12_9, ql12_9, qa12_10, qe12_10, ql12_10, qa12_11, qe12_11, ql12_11, qa12_12, qe12_12, ql12_12, qa12_14, qe12_14, ql12_14, qa12_15, qe12_15, ql12_15, qa12_16, qe12_16, ql12_16, qa12_17, qe12_17, ql12_17, qa12_19, qe12_19, ql12_19, qa12_20, qe12_20, ql12_20, qa12_21, qe12_21, ql12_21, qa12_22, qe12_22, ql12_22, qa12_29, qe12_29, ql12_29, qa12_31, qe12_31, ql12_31, qa12_32, qe12_32, ql12_32, qa12_33, qe12_33, ql12_33, qa12_34, qe12_34, ql12_34, qa12_35, qe12_35, ql12_35, qa12_41, qe12_41, ql12_41, qa12_47, qe12_47, ql12_47, oi_si, oi_sl, oi_sa, oi_sm, oi_sv, oi_sq, ol_si, ol_sl, ol_sa, ol_sm, ol_sv, ol_sq, oa_si, oa_sl, oa_sa, oa_sm, oa_sv, oa_sq, om_si, om_sl, om_sa, om_sm, om_sv, om_sq, ov_si, ov_sl, ov_sa, ov_sm, ov_sv, ov_sq, oq_si, oq_sl, oq_sa, oq_sm, oq_sv, oq_sq, Nat.reduceEqDiff, ↓reduceIte, n_add, n_addl, n_ladd, n_add1, n_mul, n_lmul, n_mull, n_sub, n_subl, n_subm, n_lt, n_le, n_eq, n_ltl, n_llt, n_lel, n_lle, n_eql, n_leq, n_m1, n_m1l, n_lt0, n_ge0, i_okc, i_okl, if_true, if_false, not_true, not_false, Nat.not_lt_zero, Nat.zero_le, cl, q5, ex, q4, e6, c3, wr1, f1]
    · have c3 : (lg_cmp (Int64.ofNat (v37 x)) (Int64.ofNat (v37 (hd ts).2.2)) = 0) = False := by
        rw [ce]
        exact propext ⟨fun z => c2 (v37_inj _ _ _ (Nat.le_refl _) w.2.2 xl.2 z.symm), False.elim⟩
      have c4 : ((hd ts).2.2 == x || (l.drop (k + 1)).contains (hd ts).2.2) = (l.drop (k + 1)).contains (hd ts).2.2 := by
        rw [beq_eq_false_iff_ne.mpr c2, Bool.false_or]
      rw [c4]
      simp (disch := first | (with_reducible assumption) | (simp only [oi_si, oi_sl, oi_sa, oi_sm, oi_sv, oi_sq, ol_si, ol_sl, ol_sa, ol_sm, ol_sv, ol_sq, oa_si, oa_sl, oa_sa, oa_sm, oa_sv, oa_sq, om_si, om_sl, om_sa, om_sm, om_sv, om_sq, ov_si, ov_sl, ov_sa, ov_sm, ov_sv, ov_sq, oq_si, oq_sl, oq_sa, oq_sm, oq_sv, oq_sq, Nat.reduceEqDiff, ↓reduceIte]; done) | omega | (exact ixn (by omega) (by omega)) | (exact ixl (by decide) (by decide)) | (simp only [pt_len, pl, z0, z1, z2, z3, z4, z5, z6, z7, z8, z9, z10, z11, z12]; omega)) only [↓gb_m, ↓gc_m, ↓gl_s, ↓gg_m, gb_s, gc_s, gg_t, gqm_0, gqm_1, pt_pt, sa_sa, sm_sm, si_si, qk12, qg12_0, qs12_0, qg12_1, qg12_2, qs12_2, qg12_3, qs12_3, qg12_4, qg12_5, qg12_6, qg12_7, qs12_7, qg12_8, qs12_8, qg12_9, qg12_10, qg12_11, qg12_12, qg12_13, qs12_13, qg12_14, qg12_15, qg12_16, qg12_17, qg12_18, qs12_18, qg12_19, qg12_20, qg12_21, qg12_22, qg12_23, qs12_23, qg12_24, qs12_24, qg12_25, qs12_25, qg12_26, qs12_26, qg12_27, qs12_27, qg12_28, qs12_28, qg12_29, qg12_30, qs12_30, qg12_31, qg12_32, qg12_33, qg12_34, qg12_35, qg12_36, qs12_36, qg12_37, qs12_37, qg12_38, qs12_38, qg12_39, qs12_39, qg12_40, qs12_40, qg12_41, qg12_42, qs12_42, qg12_43, qs12_43, qg12_44, qs12_44, qg12_45, qs12_45, qg12_46, qs12_46, qg12_47, qa12_1, qe12_1, ql12_1, qa12_4, qe12_4, ql12_4, qa12_5, qe12_5, ql12_5, qa12_6, qe12_6, ql12_6, qa12_9, qe12_9, ql12_9, qa12_10, qe12_10, ql12_10, qa12_11, qe12_11, ql12_11, qa12_12, qe12_12, ql12_12, qa12_14, qe12_14, ql12_14, qa12_15, qe12_15, ql12_15, qa12_16, qe12_16, ql12_16, qa12_17, qe12_17, ql12_17, qa12_19, qe12_19, ql12_19, qa12_20, qe12_20, ql12_20, qa12_21, qe12_21, ql12_21, qa12_22, qe12_22, ql12_22, qa12_29, qe12_29, ql12_29, qa12_31, qe12_31, ql12_31, qa12_32, qe12_32, ql12_32, qa12_33, qe12_33, ql12_33, qa12_34, qe12_34, ql12_34, qa12_35, qe12_35, ql12_35, qa12_41, qe12_41, ql12_41, qa12_47, qe12_47, ql12_47, oi_si, oi_sl, oi_sa, oi_sm, oi_sv, oi_sq, ol_si, ol_sl, ol_sa, ol_sm, ol_sv, ol_sq, oa_si, oa_sl, oa_sa, oa_sm, oa_sv, oa_sq, om_si, om_sl, om_sa, om_sm, om_sv, om_sq, ov_si, ov_sl, ov_sa, ov_sm, ov_sv, ov_sq, oq_si, oq_sl, oq_sa, oq_sm, oq_sv, oq_sq, Nat.reduceEqDiff, ↓reduceIte, n_add, n_addl, n_ladd, n_add1, n_mul, n_lmul, n_mull, n_sub, n_subl, n_subm, n_lt, n_le, n_eq, n_ltl, n_llt, n_lel, n_lle, n_eql, n_leq, n_m1, n_m1l, n_lt0, n_ge0, i_okc, i_okl, if_true, if_false, not_true, not_false, Nat.not_lt_zero, Nat.zero_le, cl, q5, ex, q4, e6, c3, ih2]
theorem m_rgTail (hF : 80 + 25 ≤ h.length) (hN : 2000 ≤ N) {TS ts : List Tok} {M : OD} {s : PS} (hP : PM TS ts M) (hw : (hd ts).1 = 1) (hn : s.2.1.length < 10) (h61 : oa M 10 61 = Int32.ofNat s.2.1.length) (hb : oa M 10 (83 + 3 * s.2.1.length + 1) = 0) (hi : oa M 10 (83 + 3 * s.2.1.length + 2) = 0) :
    ∃ M', f_X12_readGuest_86 N 80 (Int32.ofNat s.2.1.length) (pt sX12 80 M h) = some (pt sX12 80 M' h) ∧ GX s.2.1.length M M' ∧ match (if isWd wTrunk ts.tail then (match pNum 99 ts.tail.tail with
      | .inl f => .inl f
      | .inr x => match pExt 3 false false x.2 with
        | .inl f => .inl f
        | .inr y => .inr ((x.1, y.1.1, y.1.2), y.2))
    else .inl (flt 1 ts.tail) : Sum Nat ((Nat × Bool × Bool) × List Tok)) with
      | .inl f => PF f M'
      | .inr x => PM TS x.2 M' ∧ oa M' 10 61 = Int32.ofNat (s.2.1.length + 1) ∧ oa M' 10 (83 + 3 * s.2.1.length) = Int32.ofNat x.1.1 ∧ oa M' 10 (83 + 3 * s.2.1.length + 1) = eB x.1.2.1 ∧ oa M' 10 (83 + 3 * s.2.1.length + 2) = eB x.1.2.2 ∧ om M' 14 s.2.1.length = Int64.ofNat (v37 (hd ts).2.2) := by
  generalize s.2.1.length = n at *
  obtain ⟨h1, h2, h3, h4⟩ := hP.hx
  have hp := hP.2.1.hd.1
  have q4 := hP.2.2.2.1
  have q5 := hP.2.2.2.2.1
  have q6 := hP.2.2.2.2.2.1
  have e6 := h4.2.2.1 hw
  have hk : (hd ts).1 ≠ 0 := by rw [hw]; decide
  have hle : ((0 : Int32) ≤ 0) = True := eq_true (by decide)
  have hP2 := (hP.kl (M' := sm M 14 (vp_updL (om M 14) n (Int64.ofNat (v37 (hd ts).2.2)))) (k_sm (by decide))).adv hk
  generalize hM2 : si (sm M 14 (vp_updL (om M 14) n (Int64.ofNat (v37 (hd ts).2.2)))) 7 (Int32.ofNat (TS.length - ts.length + 1)) = M2 at hP2
  have g2 : GX n M M2 := by
    rw [← hM2]
    exact GX.tr GX.nm (GX.of (k_si (by decide)))
  have a2 : oa M2 10 = oa M 10 := by rw [← hM2]; rfl
  have m2 : om M2 14 n = Int64.ofNat (v37 (hd ts).2.2) := by
    rw [← hM2, om_si, om_sm, if_pos rfl, updL_eq rfl]
  have tw : f_X12_takeWord N 80 2 (pt sX12 80 M2 h) = some (pt sX12 80 (if isWd wTrunk ts.tail then si M2 7 (Int32.ofNat (TS.length - ts.tail.length + 1)) else si M2 8 (Int32.ofNat (flt 1 ts.tail))) h) := m_takeWd hF hP2 (k := 2) (by omega)
  -- from a fault on
  have flr : ∀ M3 f v, PF f M3 → GX n M2 M3 → f_X12_takeWord N 80 2 (pt sX12 80 M2 h) = some (pt sX12 80 M3 h) → f_X12_takeNumber N 80 0 99 (pt sX12 80 M3 h) = some (v, pt sX12 80 M3 h) → ∃ M', f_X12_readGuest_86 N 80 (Int32.ofNat n) (pt sX12 80 M h) = some (pt sX12 80 M' h) ∧ GX n M M' ∧ PF f M' := by
    intro M3 f v hf hg ht hnn
    have hf4 : PF f (sa M3 10 (upd (oa M3 10) (83 + 3 * n) v)) := hf
    obtain ⟨M', b1, b2, b3⟩ := m_rg144F (N := N) hF hf4 (n := n) (g := Int32.ofNat (83 + 3 * n)) (m := N - 1)
    rw [show N - 1 + 1 = N by omega] at b1
    refine ⟨M', ?_, ((g2.tr hg).tr (GX.in (fun j y1 y2 => upd_ne (by omega)))).tr b2, b3⟩
    unfold f_X12_readGuest_86
    subst hM2
    simp (disch := first | (with_reducible assumption) | (simp only [oi_si, oi_sl, oi_sa, oi_sm, oi_sv, oi_sq, ol_si, ol_sl, ol_sa, ol_sm, ol_sv, ol_sq, oa_si, oa_sl, oa_sa, oa_sm, oa_sv, oa_sq, om_si, om_sl, om_sa, om_sm, om_sv, om_sq, ov_si, ov_sl, ov_sa, ov_sm, ov_sv, ov_sq, oq_si, oq_sl, oq_sa, oq_sm, oq_sv, oq_sq, Nat.reduceEqDiff, ↓reduceIte]; done) | omega | (exact ixn (by omega) (by omega)) | (exact ixl (by decide) (by decide)) | (simp only [pt_len, pl, z0, z1, z2, z3, z4, z5, z6, z7, z8, z9, z10, z11, z12]; omega)) only [↓gb_m, ↓gc_m, ↓gl_s, ↓gg_m, gb_s, gc_s, gg_t, gqm_0, gqm_1, pt_pt, sa_sa, sm_sm, si_si, qk12, qg12_0, qs12_0, qg12_1, qg12_2, qs12_2, qg12_3, qs12_3, qg12_4, qg12_5, qg12_6, qg12_7, qs12_7, qg12_8, qs12_8, qg12_9, qg12_10, qg12_11, qg12_12, qg12_13, qs12_13, qg12_14, qg12_15, qg12_16, qg12_17, qg12_18, qs12_18, qg12_19, qg12_20, qg12_21, qg12_22, qg12_23, qs12_23, qg12_24, qs12_24, qg12_25, qs12_25, qg12_26, qs12_26, qg12_27, qs12_27, qg12_28, qs12_28, qg12_29, qg12_30, qs12_30, qg12_31, qg12_32, qg12_33, qg12_34, qg12_35, qg12_36, qs12_36, qg12_37, qs12_37, qg12_38, qs12_38, qg12_39, qs12_39, qg12_40, qs12_40, qg12_41, qg12_42, qs12_42, qg12_43, qs12_43, qg12_44, qs12_44, qg12_45, qs12_45, qg12_46, qs12_46, qg12_47, qa12_1, qe12_1, ql12_1, qa12_4, qe12_4, ql12_4, qa12_5, qe12_5, ql12_5, qa12_6, qe12_6, ql12_6, qa12_9, qe12_9, ql12_9, qa12_10, qe12_10, ql12_10, qa12_11, qe12_11, ql12_11, qa12_12, qe12_12, ql12_12, qa12_14, qe12_14, ql12_14, qa12_15, qe12_15, ql12_15, qa12_16, qe12_16, ql12_16, qa12_17, qe12_17, ql12_17, qa12_19, qe12_19, ql12_19, qa12_20, qe12_20, ql12_20, qa12_21, qe12_21, ql12_21, qa12_22, qe12_22, ql12_22, qa12_29, qe12_29, ql12_29, qa12_31, qe12_31, ql12_31, qa12_32, qe12_32, ql12_32, qa12_33, qe12_33, ql12_33, qa12_34, qe12_34, ql12_34, qa12_35, qe12_35, ql12_35, qa12_41, qe12_41, ql12_41, qa12_47, qe12_47, ql12_47, oi_si, oi_sl, oi_sa, oi_sm, oi_sv, oi_sq, ol_si, ol_sl, ol_sa, ol_sm, ol_sv, ol_sq, oa_si, oa_sl, oa_sa, oa_sm, oa_sv, oa_sq, om_si, om_sl, om_sa, om_sm, om_sv, om_sq, ov_si, ov_sl, ov_sa, ov_sm, ov_sv, ov_sq, oq_si, oq_sl, oq_sa, oq_sm, oq_sv, oq_sq, Nat.reduceEqDiff, ↓reduceIte, n_add, n_addl, n_ladd, n_add1, n_mul, n_lmul, n_mull, n_sub, n_subl, n_subm, n_lt, n_le, n_eq, n_ltl, n_llt, n_lel, n_lle, n_eql, n_leq, n_m1, n_m1l, n_lt0, n_ge0, i_okc, i_okl, if_true, if_false, not_true, not_false, Nat.not_lt_zero, Nat.zero_le, q5, hle, q4, e6, ht, hnn, gnar_0, b1]
  by_cases c1 : isWd wTrunk ts.tail = true
  · rw [if_pos c1]
    rw [if_pos c1] at tw
    have hk1 : (hd ts.tail).1 ≠ 0 := by rw [(isWd_k c1).1]; decide
    have hP3 := hP2.adv hk1
    generalize hM3 : si M2 7 (Int32.ofNat (TS.length - ts.tail.length + 1)) = M3 at hP3 tw
    have g3 : GX n M2 M3 := by
      rw [← hM3]
      exact GX.of (k_si (by decide))
    have a3 : oa M3 10 = oa M 10 := by rw [← hM3]; exact a2
    have m3 : om M3 14 n = Int64.ofNat (v37 (hd ts).2.2) := by rw [← hM3]; exact m2
    have n1 : f_X12_takeNumber N 80 0 99 (pt sX12 80 M3 h) = _ := m_takeNum (N := N) hF hP3 (m := 99) (by omega)
    have st1 := num_st hP3 (m := 99)
    have kn1 := num_k (TS := TS) (ts := ts.tail.tail) (M := M3) (r := pNum 99 ts.tail.tail)
    cases hq : pNum 99 ts.tail.tail with
    | inl f =>
      rw [hq] at n1 st1 kn1
      have hf4 : PF f (sa (numM TS ts.tail.tail M3 (.inl f)).2 10 (upd (oa (numM TS ts.tail.tail M3 (.inl f)).2 10) (83 + 3 * n) (numM TS ts.tail.tail M3 (.inl f)).1)) := st1
      obtain ⟨M', b1, b2, b3⟩ := m_rg144F (N := N) hF hf4 (n := n) (g := Int32.ofNat (83 + 3 * n)) (m := N - 1)
      rw [show N - 1 + 1 = N by omega] at b1
      refine ⟨M', ?_, (((g2.tr g3).tr (GX.of kn1)).tr (GX.in (fun j y1 y2 => upd_ne (by omega)))).tr b2, b3⟩
      unfold f_X12_readGuest_86
      subst hM2
      simp (disch := first | (with_reducible assumption) | (simp only [oi_si, oi_sl, oi_sa, oi_sm, oi_sv, oi_sq, ol_si, ol_sl, ol_sa, ol_sm, ol_sv, ol_sq, oa_si, oa_sl, oa_sa, oa_sm, oa_sv, oa_sq, om_si, om_sl, om_sa, om_sm, om_sv, om_sq, ov_si, ov_sl, ov_sa, ov_sm, ov_sv, ov_sq, oq_si, oq_sl, oq_sa, oq_sm, oq_sv, oq_sq, Nat.reduceEqDiff, ↓reduceIte]; done) | omega | (exact ixn (by omega) (by omega)) | (exact ixl (by decide) (by decide)) | (simp only [pt_len, pl, z0, z1, z2, z3, z4, z5, z6, z7, z8, z9, z10, z11, z12]; omega)) only [↓gb_m, ↓gc_m, ↓gl_s, ↓gg_m, gb_s, gc_s, gg_t, gqm_0, gqm_1, pt_pt, sa_sa, sm_sm, si_si, qk12, qg12_0, qs12_0, qg12_1, qg12_2, qs12_2, qg12_3, qs12_3, qg12_4, qg12_5, qg12_6, qg12_7, qs12_7, qg12_8, qs12_8, qg12_9, qg12_10, qg12_11, qg12_12, qg12_13, qs12_13, qg12_14, qg12_15, qg12_16, qg12_17, qg12_18, qs12_18, qg12_19, qg12_20, qg12_21, qg12_22, qg12_23, qs12_23, qg12_24, qs12_24, qg12_25, qs12_25, qg12_26, qs12_26, qg12_27, qs12_27, qg12_28, qs12_28, qg12_29, qg12_30, qs12_30, qg12_31, qg12_32, qg12_33, qg12_34, qg12_35, qg12_36, qs12_36, qg12_37, qs12_37, qg12_38, qs12_38, qg12_39, qs12_39, qg12_40, qs12_40, qg12_41, qg12_42, qs12_42, qg12_43, qs12_43, qg12_44, qs12_44, qg12_45, qs12_45, qg12_46, qs12_46, qg12_47, qa12_1, qe12_1, ql12_1, qa12_4, qe12_4, ql12_4, qa12_5, qe12_5, ql12_5, qa12_6, qe12_6, ql12_6, qa12_9, qe12_9, ql12_9, qa12_10, qe12_10, ql12_10, qa12_11, qe12_11, ql12_11, qa12_12, qe12_12, ql12_12, qa12_14, qe12_14, ql12_14, qa12_15, qe12_15, ql12_15, qa12_16, qe12_16, ql12_16, qa12_17, qe12_17, ql12_17, qa12_19, qe12_19, ql12_19, qa12_20, qe12_20, ql12_20, qa12_21, qe12_21, ql12_21, qa12_22, qe12_22, ql12_22, qa12_29, qe12_29, ql12_29, qa12_31, qe12_31, ql12_31, qa12_32, qe12_32, ql12_32, qa12_33, qe12_33, ql12_33, qa12_34, qe12_34, ql12_34, qa12_35, qe12_35, ql12_35, qa12_41, qe12_41, ql12_41, qa12_47, qe12_47, ql12_47, oi_si, oi_sl, oi_sa, oi_sm, oi_sv, oi_sq, ol_si, ol_sl, ol_sa, ol_sm, ol_sv, ol_sq, oa_si, oa_sl, oa_sa, oa_sm, oa_sv, oa_sq, om_si, om_sl, om_sa, om_sm, om_sv, om_sq, ov_si, ov_sl, ov_sa, ov_sm, ov_sv, ov_sq, oq_si, oq_sl, oq_sa, oq_sm, oq_sv, oq_sq, Nat.reduceEqDiff, ↓reduceIte, n_add, n_addl, n_ladd, n_add1, n_mul, n_lmul, n_mull, n_sub, n_subl, n_subm, n_lt, n_le, n_eq, n_ltl, n_llt, n_lel, n_lle, n_eql, n_leq, n_m1, n_m1l, n_lt0, n_ge0, i_okc, i_okl, if_true, if_false, not_true, not_false, Nat.not_lt_zero, Nat.zero_le, q5, hle, q4, e6, tw, n1, gnar_0, b1]
    | inr x =>
      rw [hq] at n1 st1 kn1
      obtain ⟨st2, st3, st4⟩ := st1
      generalize hr : numM TS ts.tail.tail M3 (.inr x) = r1 at n1 st2 kn1
      have v1 : r1.1 = Int32.ofNat x.1 := by rw [← hr]; rfl
      have a4 : oa r1.2 10 = oa M 10 := by rw [kn1.a (by decide)]; exact a3
      have m4 : om r1.2 14 n = Int64.ofNat (v37 (hd ts).2.2) := by rw [kn1.m (by decide)]; exact m3
      obtain ⟨M', b1, b2, b3, b4, b5⟩ := m_rg144 (N := N) hF hn 3 false false N (sa r1.2 10 (upd (oa r1.2 10) (83 + 3 * n) r1.1)) x.2 (st2.kl (k_sa (by decide))) (by rw [oa_sa, if_pos rfl, upd_ne (by omega), a4, hb]; rfl) (by rw [oa_sa, if_pos rfl, upd_ne (by omega), a4, hi]; rfl) (by rw [oa_sa, if_pos rfl, upd_ne (by omega), a4, h61]) rfl (by omega)
      refine ⟨M', ?_, (((g2.tr g3).tr (GX.of kn1)).tr (GX.in (fun j y1 y2 => upd_ne (by omega)))).tr b2, ?_⟩
      · unfold f_X12_readGuest_86
        subst hM2
        simp (disch := first | (with_reducible assumption) | (simp only [oi_si, oi_sl, oi_sa, oi_sm, oi_sv, oi_sq, ol_si, ol_sl, ol_sa, ol_sm, ol_sv, ol_sq, oa_si, oa_sl, oa_sa, oa_sm, oa_sv, oa_sq, om_si, om_sl, om_sa, om_sm, om_sv, om_sq, ov_si, ov_sl, ov_sa, ov_sm, ov_sv, ov_sq, oq_si, oq_sl, oq_sa, oq_sm, oq_sv, oq_sq, Nat.reduceEqDiff, ↓reduceIte]; done) | omega | (exact ixn (by omega) (by omega)) | (exact ixl (by decide) (by decide)) | (simp only [pt_len, pl, z0, z1, z2, z3, z4, z5, z6, z7, z8, z9, z10, z11, z12]; omega)) only [↓gb_m, ↓gc_m, ↓gl_s, ↓gg_m, gb_s, gc_s, gg_t, gqm_0, gqm_1, pt_pt, sa_sa, sm_sm, si_si, qk12, qg12_0, qs12_0, qg12_1, qg12_2, qs12_2, qg12_3, qs12_3, qg12_4, qg12_5, qg12_6, qg12_7, qs12_7, qg12_8, qs12_8, qg12_9, qg12_10, qg12_11, qg12_12, qg12_13, qs12_13, qg12_14, qg12_15, qg12_16, qg12_17, qg12_18, qs12_18, qg12_19, qg12_20, qg12_21, qg12_22, qg12_23, qs12_23, qg12_24, qs12_24, qg12_25, qs12_25, qg12_26, qs12_26, qg12_27, qs12_27, qg12_28, qs12_28, qg12_29, qg12_30, qs12_30, qg12_31, qg12_32, qg12_33, qg12_34, qg12_35, qg12_36, qs12_36, qg12_37, qs12_37, qg12_38, qs12_38, qg12_39, qs12_39, qg12_40, qs12_40, qg12_41, qg12_42, qs12_42, qg12_43, qs12_43, qg12_44, qs12_44, qg12_45, qs12_45, qg12_46, qs12_46, qg12_47, qa12_1, qe12_1, ql12_1, qa12_4, qe12_4, ql12_4, qa12_5, qe12_5, ql12_5, qa12_6, qe12_6, ql12_6, qa12_9, qe12_9, ql12_9, qa12_10, qe12_10, ql12_10, qa12_11, qe12_11, ql12_11, qa12_12, qe12_12, ql12_12, qa12_14, qe12_14, ql12_14, qa12_15, qe12_15, ql12_15, qa12_16, qe12_16, ql12_16, qa12_17, qe12_17, ql12_17, qa12_19, qe12_19, ql12_19, qa12_20, qe12_20, ql12_20, qa12_21, qe12_21, ql12_21, qa12_22, qe12_22, ql12_22, qa12_29, qe12_29, ql12_29, qa12_31, qe12_31, ql12_31, qa12_32, qe12_32, ql12_32, qa12_33, qe12_33, ql12_33, qa12_34, qe12_34, ql12_34, qa12_35, qe12_35, ql12_35, qa12_41, qe12_41, ql12_41, qa12_47, qe12_47, ql12_47, oi_si, oi_sl, oi_sa, oi_sm, oi_sv, oi_sq, ol_si, ol_sl, ol_sa, ol_sm, ol_sv, ol_sq, oa_si, oa_sl, oa_sa, oa_sm, oa_sv, oa_sq, om_si, om_sl, om_sa, om_sm, om_sv, om_sq, ov_si, ov_sl, ov_sa, ov_sm, ov_sv, ov_sq, oq_si, oq_sl, oq_sa, oq_sm, oq_sv, oq_sq, Nat.reduceEqDiff, ↓reduceIte, n_add, n_addl, n_ladd, n_add1, n_mul, n_lmul, n_mull, n_sub, n_subl, n_subm, n_lt, n_le, n_eq, n_ltl, n_llt, n_lel, n_lle, n_eql, n_leq, n_m1, n_m1l, n_lt0, n_ge0, i_okc, i_okl, if_true, if_false, not_true, not_false, Nat.not_lt_zero, Nat.zero_le, q5, hle, q4, e6, tw, n1, gnar_0, b1]
      · show match (match pExt 3 false false x.2 with
          | .inl f => .inl f
          | .inr y => .inr ((x.1, y.1.1, y.1.2), y.2) : Sum Nat ((Nat × Bool × Bool) × List Tok)) with
          | .inl f => PF f M'
          | .inr x => _
        cases hq2 : pExt 3 false false x.2 with
        | inl f =>
          rw [hq2] at b5
          exact b5
        | inr y =>
          rw [hq2] at b5
          obtain ⟨d1, d2, d3, d4⟩ := b5
          refine ⟨d1, d4, ?_, d2, d3, ?_⟩
          · rw [b4, oa_sa, if_pos rfl, upd_eq rfl, v1]
          · rw [b3]
            exact m4
  · rw [if_neg c1]
    rw [if_neg c1] at tw
    have hf := (m_wrong (N := N) hF hP2 (k := 1) (by omega) (by omega)).2
    exact flr _ _ _ hf (GX.of (k_si (by decide))) tw (m_takeNumF hF hf)
theorem m_readGuest (hF : 80 + 25 ≤ h.length) (hN : 2000 ≤ N) {TS ts : List Tok} {M : OD} {s : PS} (hP : PM TS ts M) (hD : DR s M) (hs : PSk s) (hk : (hd ts).1 ≠ 0) : ∃ M', f_X12_readGuest N 80 (pt sX12 80 M h) = some (pt sX12 80 M' h) ∧ KL M M' ∧ LO TS (pGuest s ts) M' := by
  have q4 := hP.2.2.2.1
  have q6 := hP.2.2.2.2.2.1
  have hx := hP.hx.1
  have d1 := hD.2.1
  have s1 := hs.2.1
  obtain ⟨w3, w4⟩ := m_wrong (N := N) hF hP (k := 5) (by omega) (by omega)
  have w3 : f_X12_wrong N 80 5 (pt sX12 80 M h) = _ := w3
  unfold f_X12_readGuest f_X12_readGuest_42 pGuest
  by_cases c : s.2.1.length = 10
  · rw [if_pos c]
    rw [c] at d1
    refine ⟨si M 8 (Int32.ofNat (flt 5 ts)), ?_, KL.of (k_si (by decide)), w4⟩
    simp (disch := first | (with_reducible assumption) | (simp only [oi_si, oi_sl, oi_sa, oi_sm, oi_sv, oi_sq, ol_si, ol_sl, ol_sa, ol_sm, ol_sv, ol_sq, oa_si, oa_sl, oa_sa, oa_sm, oa_sv, oa_sq, om_si, om_sl, om_sa, om_sm, om_sv, om_sq, ov_si, ov_sl, ov_sa, ov_sm, ov_sv, ov_sq, oq_si, oq_sl, oq_sa, oq_sm, oq_sv, oq_sq, Nat.reduceEqDiff, ↓reduceIte]; done) | omega | (exact ixn (by omega) (by omega)) | (exact ixl (by decide) (by decide)) | (simp only [pt_len, pl, z0, z1, z2, z3, z4, z5, z6, z7, z8, z9, z10, z11, z12]; omega)) only [↓gb_m, ↓gc_m, ↓gl_s, ↓gg_m, gb_s, gc_s, gg_t, gqm_0, gqm_1, pt_pt, sa_sa, sm_sm, si_si, qk12, qg12_0, qs12_0, qg12_1, qg12_2, qs12_2, qg12_3, qs12_3, qg12_4, qg12_5, qg12_6, qg12_7, qs12_7, qg12_8, qs12_8, qg12_9, qg12_10, qg12_11, qg12_12, qg12_13, qs12_13, qg12_14, qg12_15, qg12_16, qg12_17, qg12_18, qs12_18, qg12_19, qg12_20, qg12_21, qg12_22, qg12_23, qs12_23, qg12_24, qs12_24, qg12_25, qs12_25, qg12_26, qs12_26, qg12_27, qs12_27, qg12_28, qs12_28, qg12_29, qg12_30, qs12_30, qg12_31, qg12_32, qg12_33, qg12_34, qg12_35, qg12_36, qs12_36, qg12_37, qs12_37, qg12_38, qs12_38, qg12_39, qs12_39, qg12_40, qs12_40, qg12_41, qg12_42, qs12_42, qg12_43, qs12_43, qg12_44, qs12_44, qg12_45, qs12_45, qg12_46, qs12_46, qg12_47, qa12_1, qe12_1, ql12_1, qa12_4, qe12_4, ql12_4, qa12_5, qe12_5, ql12_5, qa12_6, qe12_6, ql12_6, qa12_9, qe12_9, ql12_9, qa12_10, qe12_10, ql12_10, qa12_11, qe12_11, ql12_11, qa12_12, qe12_12, ql12_12, qa12_14, qe12_14, ql12_14, qa12_15, qe12_15, ql12_15, qa12_16, qe12_16, ql12_16, qa12_17, qe12_17, ql12_17, qa12_19, qe12_19, ql12_19, qa12_20, qe12_20, ql12_20, qa12_21, qe12_21, ql12_21, qa12_22, qe12_22, ql12_22, qa12_29, qe12_29, ql12_29, qa12_31, qe12_31, ql12_31, qa12_32, qe12_32, ql12_32, qa12_33, qe12_33, ql12_33, qa12_34, qe12_34, ql12_34, qa12_35, qe12_35, ql12_35, qa12_41, qe12_41, ql12_41, qa12_47, qe12_47, ql12_47, oi_si, oi_sl, oi_sa, oi_sm, oi_sv, oi_sq, ol_si, ol_sl, ol_sa, ol_sm, ol_sv, ol_sq, oa_si, oa_sl, oa_sa, oa_sm, oa_sv, oa_sq, om_si, om_sl, om_sa, om_sm, om_sv, om_sq, ov_si, ov_sl, ov_sa, ov_sm, ov_sv, ov_sq, oq_si, oq_sl, oq_sa, oq_sm, oq_sv, oq_sq, Nat.reduceEqDiff, ↓reduceIte, n_add, n_addl, n_ladd, n_add1, n_mul, n_lmul, n_mull, n_sub, n_subl, n_subm, n_lt, n_le, n_eq, n_ltl, n_llt, n_lel, n_lle, n_eql, n_leq, n_m1, n_m1l, n_lt0, n_ge0, i_okc, i_okl, if_true, if_false, not_true, not_false, Nat.not_lt_zero, Nat.zero_le, d1, w3]
  · rw [if_neg c]
    have hP1 := hP.adv hk
    generalize hM1 : si M 7 (Int32.ofNat (TS.length - ts.length + 1)) = M1 at hP1
    have k1 : Keep [7, 8] M M1 := by rw [← hM1]; exact k_si (by decide)
    have nm := m_isName (N := N) hF hN hP1
    obtain ⟨wr1, wr2⟩ := m_wrong (N := N) hF hP1 (k := 1) (by omega) (by omega)
    have wr1 : f_X12_wrong N 80 1 (pt sX12 80 M1 h) = _ := wr1
    by_cases c1 : (hd ts.tail).1 = 1 ∧ isRes (hd ts.tail).2.2 = false
    · rw [if_pos c1]
      rw [decide_eq_true c1.1, c1.2] at nm
      have nm : f_X12_isName N 80 (pt sX12 80 M1 h) = some (1, pt sX12 80 M1 h) := nm
      have t0 : ((1 : Int32) = 0) = False := eq_false (by decide)
      have lp := m_rg44 (N := N) hF hP1 c1.1 (l := s.2.1.map (·.1)) (by rw [List.length_map]; exact s1) (by
          intro x hx
          obtain ⟨y, y1, y2⟩ := List.mem_map.mp hx
          rw [← y2]
          exact (hs.2.2.2.2.1 y y1).2) (by
          intro g x hx
          rw [List.getElem?_map] at hx
          cases hy : s.2.1[g]? with
          | none => rw [hy] at hx; cases hx
          | some y =>
            rw [hy] at hx
            cases hx
            rw [k1.m (by decide)]
            exact (hD.2.2.2.2.1 g y hy).2.2.2) s.2.1.length 0 N (by rw [List.length_map]; omega) (by omega)
      rw [List.length_map, List.drop_zero] at lp
      have lp : gi (fun zk zs => f_X12_readGuest_44 N zk zs.1 zs.2.1 zs.2.2.1 zs.2.2.2) N (80, Int32.ofNat s.2.1.length, 0, pt sX12 80 M1 h) = _ := lp
      by_cases c2 : (s.2.1.map (·.1)).contains (hd ts.tail).2.2 = true
      · rw [if_pos c2]
        rw [if_pos c2] at lp
        have wr3 := (m_wrong (N := N) hF hP1 (k := 3) (by omega) (by omega)).2
        refine ⟨si M1 8 (Int32.ofNat (flt 3 ts.tail)), ?_, (KL.of (k1.up (by decide))).tr (KL.of (k_si (by decide))), wr3⟩
        subst hM1
        simp (disch := first | (with_reducible assumption) | (simp only [oi_si, oi_sl, oi_sa, oi_sm, oi_sv, oi_sq, ol_si, ol_sl, ol_sa, ol_sm, ol_sv, ol_sq, oa_si, oa_sl, oa_sa, oa_sm, oa_sv, oa_sq, om_si, om_sl, om_sa, om_sm, om_sv, om_sq, ov_si, ov_sl, ov_sa, ov_sm, ov_sv, ov_sq, oq_si, oq_sl, oq_sa, oq_sm, oq_sv, oq_sq, Nat.reduceEqDiff, ↓reduceIte]; done) | omega | (exact ixn (by omega) (by omega)) | (exact ixl (by decide) (by decide)) | (simp only [pt_len, pl, z0, z1, z2, z3, z4, z5, z6, z7, z8, z9, z10, z11, z12]; omega)) only [↓gb_m, ↓gc_m, ↓gl_s, ↓gg_m, gb_s, gc_s, gg_t, gqm_0, gqm_1, pt_pt, sa_sa, sm_sm, si_si, qk12, qg12_0, qs12_0, qg12_1, qg12_2, qs12_2, qg12_3, qs12_3, qg12_4, qg12_5, qg12_6, qg12_7, qs12_7, qg12_8, qs12_8, qg12_9, qg12_10, qg12_11, qg12_12, qg12_13, qs12_13, qg12_14, qg12_15, qg12_16, qg12_17, qg12_18, qs12_18, qg12_19, qg12_20, qg12_21, qg12_22, qg12_23, qs12_23, qg12_24, qs12_24, qg12_25, qs12_25, qg12_26, qs12_26, qg12_27, qs12_27, qg12_28, qs12_28, qg12_29, qg12_30, qs12_30, qg12_31, qg12_32, qg12_33, qg12_34, qg12_35, qg12_36, qs12_36, qg12_37, qs12_37, qg12_38, qs12_38, qg12_39, qs12_39, qg12_40, qs12_40, qg12_41, qg12_42, qs12_42, qg12_43, qs12_43, qg12_44, qs12_44, qg12_45, qs12_45, qg12_46, qs12_46, qg12_47, qa12_1, qe12_1, ql12_1, qa12_4, qe12_4, ql12_4, qa12_5, qe12_5, ql12_5, qa12_6, qe12_6, ql12_6, qa12_9, qe12_9, ql12_9, qa12_10, qe12_10, ql12_10, qa12_11, qe12_11, ql12_11, qa12_12, qe12_12, ql12_12, qa12_14, qe12_14, ql12_14, qa12_15, qe12_15, ql12_15, qa12_16, qe12_16, ql12_16, qa12_17, qe12_17, ql12_17, qa12_19, qe12_19, ql12_19, qa12_20, qe12_20, ql12_20, qa12_21, qe12_21, ql12_21, qa12_22, qe12_22, ql12_22, qa12_29, qe12_29, ql12_29, qa12_31, qe12_31, ql12_31, qa12_32, qe12_32, ql12_32, qa12_33, qe12_33, ql12_33, qa12_34, qe12_34, ql12_34, qa12_35, qe12_35, ql12_35, qa12_41, qe12_41, ql12_41, qa12_47, qe12_47, ql12_47, oi_si, oi_sl, oi_sa, oi_sm, oi_sv, oi_sq, ol_si, ol_sl, ol_sa, ol_sm, ol_sv, ol_sq, oa_si, oa_sl, oa_sa, oa_sm, oa_sv, oa_sq, om_si, om_sl, om_sa, om_sm, om_sv, om_sq, ov_si, ov_sl, ov_sa, ov_sm, ov_sv, ov_sq, oq_si, oq_sl, oq_sa, oq_sm, oq_sv, oq_sq, Nat.reduceEqDiff, ↓reduceIte, n_add, n_addl, n_ladd, n_add1, n_mul, n_lmul, n_mull, n_sub, n_subl, n_subm, n_lt, n_le, n_eq, n_ltl, n_llt, n_lel, n_lle, n_eql, n_leq, n_m1, n_m1l, n_lt0, n_ge0, i_okc, i_okl, if_true, if_false, not_true, not_false, Nat.not_lt_zero, Nat.zero_le, d1, c, q4, nm, t0, lp]
      · rw [if_neg c2]
        rw [if_neg c2] at lp
        have a10 : oa M1 10 = oa M 10 := k1.a (by decide)
        have e6 := hD.2.2.2.2.2.1 s.2.1.length (Nat.le_refl _) (by omega)
        obtain ⟨M', b1, b2, b3⟩ := m_rgTail (N := N) hF hN (s := s) hP1 c1.1 (by omega) (by rw [a10]; exact d1) (by rw [a10]; exact e6.1) (by rw [a10]; exact e6.2)
        refine ⟨M', ?_, (KL.of (k1.up (by decide))).tr b2.kl, ?_⟩
        · subst hM1
          simp (disch := first | (with_reducible assumption) | (simp only [oi_si, oi_sl, oi_sa, oi_sm, oi_sv, oi_sq, ol_si, ol_sl, ol_sa, ol_sm, ol_sv, ol_sq, oa_si, oa_sl, oa_sa, oa_sm, oa_sv, oa_sq, om_si, om_sl, om_sa, om_sm, om_sv, om_sq, ov_si, ov_sl, ov_sa, ov_sm, ov_sv, ov_sq, oq_si, oq_sl, oq_sa, oq_sm, oq_sv, oq_sq, Nat.reduceEqDiff, ↓reduceIte]; done) | omega | (exact ixn (by omega) (by omega)) | (exact ixl (by decide) (by decide)) | (simp only [pt_len, pl, z0, z1, z2, z3, z4, z5, z6, z7, z8, z9, z10, z11, z12]; omega)) only [↓gb_m, ↓gc_m, ↓gl_s, ↓gg_m, gb_s, gc_s, gg_t, gqm_0, gqm_1, pt_pt, sa_sa, sm_sm, si_si, qk12, qg12_0, qs12_0, qg12_1, qg12_2, qs12_2, qg12_3, qs12_3, qg12_4, qg12_5, qg12_6, qg12_7, qs12_7, qg12_8, qs12_8, qg12_9, qg12_10, qg12_11, qg12_12, qg12_13, qs12_13, qg12_14, qg12_15, qg12_16, qg12_17, qg12_18, qs12_18, qg12_19, qg12_20, qg12_21, qg12_22, qg12_23, qs12_23, qg12_24, qs12_24, qg12_25, qs12_25, qg12_26, qs12_26, qg12_27, qs12_27, qg12_28, qs12_28, qg12_29, qg12_30, qs12_30, qg12_31, qg12_32, qg12_33, qg12_34, qg12_35, qg12_36, qs12_36, qg12_37, qs12_37, qg12_38, qs12_38, qg12_39, qs12_39, qg12_40, qs12_40, qg12_41, qg12_42, qs12_42, qg12_43, qs12_43, qg12_44, qs12_44, qg12_45, qs12_45, qg12_46, qs12_46, qg12_47, qa12_1, qe12_1, ql12_1, qa12_4, qe12_4, ql12_4, qa12_5, qe12_5, ql12_5, qa12_6, qe12_6, ql12_6, qa12_9, qe12_9, ql12_9, qa12_10, qe12_10, ql12_10, qa12_11, qe12_11, ql12_11, qa12_12, qe12_12, ql12_12, qa12_14, qe12_14, ql12_14, qa12_15, qe12_15, ql12_15, qa12_16, qe12_16, ql12_16, qa12_17, qe12_17, ql12_17, qa12_19, qe12_19, ql12_19, qa12_20, qe12_20, ql12_20, qa12_21, qe12_21, ql12_21, qa12_22, qe12_22, ql12_22, qa12_29, qe12_29, ql12_29, qa12_31, qe12_31, ql12_31, qa12_32, qe12_32, ql12_32, qa12_33, qe12_33, ql12_33, qa12_34, qe12_34, ql12_34, qa12_35, qe12_35, ql12_35, qa12_41, qe12_41, ql12_41, qa12_47, qe12_47, ql12_47, oi_si, oi_sl, oi_sa, oi_sm, oi_sv, oi_sq, ol_si, ol_sl, ol_sa, ol_sm, ol_sv, ol_sq, oa_si, oa_sl, oa_sa, oa_sm, oa_sv, oa_sq, om_si, om_sl, om_sa, om_sm, om_sv, om_sq, ov_si, ov_sl, ov_sa, ov_sm, ov_sv, ov_sq, oq_si, oq_sl, oq_sa, oq_sm, oq_sv, oq_sq, Nat.reduceEqDiff, ↓reduceIte, n_add, n_addl, n_ladd, n_add1, n_mul, n_lmul, n_mull, n_sub, n_subl, n_subm, n_lt, n_le, n_eq, n_ltl, n_llt, n_lel, n_lle, n_eql, n_leq, n_m1, n_m1l, n_lt0, n_ge0, i_okc, i_okl, if_true, if_false, not_true, not_false, Nat.not_lt_zero, Nat.zero_le, d1, c, q4, nm, t0, lp, b1]
        · by_cases c3 : isWd wTrunk ts.tail.tail = true
          · rw [if_pos c3]
            rw [if_pos c3] at b3
            cases hq : pNum 99 ts.tail.tail.tail with
            | inl f =>
              rw [hq] at b3
              exact b3
            | inr x =>
              rw [hq] at b3
              show LO TS (match pExt 3 false false x.2 with
                | .inl f => .inl f
                | .inr y => .inr ((s.1, s.2.1 ++ [((hd ts.tail).2.2, x.1, y.1.1, y.1.2)], s.2.2), y.2)) M'
              have b3 : match (match pExt 3 false false x.2 with
                | .inl f => .inl f
                | .inr y => .inr ((x.1, y.1.1, y.1.2), y.2) : Sum Nat ((Nat × Bool × Bool) × List Tok)) with
                | .inl f => PF f M'
                | .inr x => PM TS x.2 M' ∧ oa M' 10 61 = Int32.ofNat (s.2.1.length + 1) ∧ oa M' 10 (83 + 3 * s.2.1.length) = Int32.ofNat x.1.1 ∧ oa M' 10 (83 + 3 * s.2.1.length + 1) = eB x.1.2.1 ∧ oa M' 10 (83 + 3 * s.2.1.length + 2) = eB x.1.2.2 ∧ om M' 14 s.2.1.length = Int64.ofNat (v37 (hd ts.tail).2.2) := b3
              cases hq2 : pExt 3 false false x.2 with
              | inl f =>
                rw [hq2] at b3
                exact b3
              | inr y =>
                rw [hq2] at b3
                obtain ⟨z1, z2, z3, z4, z5, z6⟩ := b3
                exact ⟨z1, hD.guest hs (by omega) ((GX.of k1).tr b2) z2 z3 z4 z5 z6⟩
          · rw [if_neg c3]
            rw [if_neg c3] at b3
            exact b3
    · rw [if_neg c1]
      have c1' : (decide ((hd ts.tail).1 = 1) && !isRes (hd ts.tail).2.2) = false := by
        cases hr : isRes (hd ts.tail).2.2 with
        | true => simp
        | false =>
          have : ¬ (hd ts.tail).1 = 1 := fun z => c1 ⟨z, hr⟩
          simp [this]
      rw [c1'] at nm
      have nm : f_X12_isName N 80 (pt sX12 80 M1 h) = some (0, pt sX12 80 M1 h) := nm
      have lf := m_rg44F (N := N) hF wr2 (a := Int32.ofNat s.2.1.length) (b := 0) (m := N - 1)
      rw [show N - 1 + 1 = N by omega] at lf
      refine ⟨_, ?_, (KL.of (k1.up (by decide))).tr (KL.of (k_si (by decide))), wr2⟩
      subst hM1
      simp (disch := first | (with_reducible assumption) | (simp only [oi_si, oi_sl, oi_sa, oi_sm, oi_sv, oi_sq, ol_si, ol_sl, ol_sa, ol_sm, ol_sv, ol_sq, oa_si, oa_sl, oa_sa, oa_sm, oa_sv, oa_sq, om_si, om_sl, om_sa, om_sm, om_sv, om_sq, ov_si, ov_sl, ov_sa, ov_sm, ov_sv, ov_sq, oq_si, oq_sl, oq_sa, oq_sm, oq_sv, oq_sq, Nat.reduceEqDiff, ↓reduceIte]; done) | omega | (exact ixn (by omega) (by omega)) | (exact ixl (by decide) (by decide)) | (simp only [pt_len, pl, z0, z1, z2, z3, z4, z5, z6, z7, z8, z9, z10, z11, z12]; omega)) only [↓gb_m, ↓gc_m, ↓gl_s, ↓gg_m, gb_s, gc_s, gg_t, gqm_0, gqm_1, pt_pt, sa_sa, sm_sm, si_si, qk12, qg12_0, qs12_0, qg12_1, qg12_2, qs12_2, qg12_3, qs12_3, qg12_4, qg12_5, qg12_6, qg12_7, qs12_7, qg12_8, qs12_8, qg12_9, qg12_10, qg12_11, qg12_12, qg12_13, qs12_13, qg12_14, qg12_15, qg12_16, qg12_17, qg12_18, qs12_18, qg12_19, qg12_20, qg12_21, qg12_22, qg12_23, qs12_23, qg12_24, qs12_24, qg12_25, qs12_25, qg12_26, qs12_26, qg12_27, qs12_27, qg12_28, qs12_28, qg12_29, qg12_30, qs12_30, qg12_31, qg12_32, qg12_33, qg12_34, qg12_35, qg12_36, qs12_36, qg12_37, qs12_37, qg12_38, qs12_38, qg12_39, qs12_39, qg12_40, qs12_40, qg12_41, qg12_42, qs12_42, qg12_43, qs12_43, qg12_44, qs12_44, qg12_45, qs12_45, qg12_46, qs12_46, qg12_47, qa12_1, qe12_1, ql12_1, qa12_4, qe12_4, ql12_4, qa12_5, qe12_5, ql12_5, qa12_6, qe12_6, ql12_6, qa12_9, qe12_9, ql12_9, qa12_10, qe12_10, ql12_10, qa12_11, qe12_11, ql12_11, qa12_12, qe12_12, ql12_12, qa12_14, qe12_14, ql12_14, qa12_15, qe12_15, ql12_15, qa12_16, qe12_16, ql12_16, qa12_17, qe12_17, ql12_17, qa12_19, qe12_19, ql12_19, qa12_20, qe12_20, ql12_20, qa12_21, qe12_21, ql12_21, qa12_22, qe12_22, ql12_22, qa12_29, qe12_29, ql12_29, qa12_31, qe12_31, ql12_31, qa12_32, qe12_32, ql12_32, qa12_33, qe12_33, ql12_33, qa12_34, qe12_34, ql12_34, qa12_35, qe12_35, ql12_35, qa12_41, qe12_41, ql12_41, qa12_47, qe12_47, ql12_47, oi_si, oi_sl, oi_sa, oi_sm, oi_sv, oi_sq, ol_si, ol_sl, ol_sa, ol_sm, ol_sv, ol_sq, oa_si, oa_sl, oa_sa, oa_sm, oa_sv, oa_sq, om_si, om_sl, om_sa, om_sm, om_sv, om_sq, ov_si, ov_sl, ov_sa, ov_sm, ov_sv, ov_sq, oq_si, oq_sl, oq_sa, oq_sm, oq_sv, oq_sq, Nat.reduceEqDiff, ↓reduceIte, n_add, n_addl, n_ladd, n_add1, n_mul, n_lmul, n_mull, n_sub, n_subl, n_subm, n_lt, n_le, n_eq, n_ltl, n_llt, n_lel, n_lle, n_eql, n_leq, n_m1, n_m1l, n_lt0, n_ge0, i_okc, i_okl, if_true, if_false, not_true, not_false, Nat.not_lt_zero, Nat.zero_le, d1, c, q4, nm, wr1, lf]
theorem cdAll_app (rs : List (List Cd)) (c : List Cd) : cdAll (rs ++ [c]) = cdAll rs ++ c ++ [(0, 0)] := by
  unfold cdAll
  rw [List.foldl_append]
  rfl
theorem m_readRule (hF : 80 + 25 ≤ h.length) (hN : 2000 ≤ N) {TS ts : List Tok} {M : OD} {s : PS} (hP : PM TS ts M) (hD : DR s M) (hs : PSk s) (hk : (hd ts).1 ≠ 0) (hb : (cdAll s.2.2).length + ts.length ≤ 1010) : ∃ M', f_X12_readRule N 80 (pt sX12 80 M h) = some (pt sX12 80 M' h) ∧ KL M M' ∧ LO TS (pRule s ts) M' := by
  have q4 := hP.2.2.2.1
  have q6 := hP.2.2.2.2.2.1
  have hx := hP.hx.1
  have d2 := hD.2.2.1
  have s2 := hs.2.2.1
  have d8 := hD.2.2.2.2.2.2.2
  have d13 := d8.1
  obtain ⟨w3, w4⟩ := m_wrong (N := N) hF hP (k := 5) (by omega) (by omega)
  have w3 : f_X12_wrong N 80 5 (pt sX12 80 M h) = _ := w3
  unfold f_X12_readRule pRule
  by_cases c : s.2.2.length = 4
  · rw [if_pos c]
    rw [c] at d2
    refine ⟨si M 8 (Int32.ofNat (flt 5 ts)), ?_, KL.of (k_si (by decide)), w4⟩
    simp (disch := first | (with_reducible assumption) | (simp only [oi_si, oi_sl, oi_sa, oi_sm, oi_sv, oi_sq, ol_si, ol_sl, ol_sa, ol_sm, ol_sv, ol_sq, oa_si, oa_sl, oa_sa, oa_sm, oa_sv, oa_sq, om_si, om_sl, om_sa, om_sm, om_sv, om_sq, ov_si, ov_sl, ov_sa, ov_sm, ov_sv, ov_sq, oq_si, oq_sl, oq_sa, oq_sm, oq_sv, oq_sq, Nat.reduceEqDiff, ↓reduceIte]; done) | omega | (exact ixn (by omega) (by omega)) | (exact ixl (by decide) (by decide)) | (simp only [pt_len, pl, z0, z1, z2, z3, z4, z5, z6, z7, z8, z9, z10, z11, z12]; omega)) only [↓gb_m, ↓gc_m, ↓gl_s, ↓gg_m, gb_s, gc_s, gg_t, gqm_0, gqm_1, pt_pt, sa_sa, sm_sm, si_si, qk12, qg12_0, qs12_0, qg12_1, qg12_2, qs12_2, qg12_3, qs12_3, qg12_4, qg12_5, qg12_6, qg12_7, qs12_7, qg12_8, qs12_8, qg12_9, qg12_10, qg12_11, qg12_12, qg12_13, qs12_13, qg12_14, qg12_15, qg12_16, qg12_17, qg12_18, qs12_18, qg12_19, qg12_20, qg12_21, qg12_22, qg12_23, qs12_23, qg12_24, qs12_24, qg12_25, qs12_25, qg12_26, qs12_26, qg12_27, qs12_27, qg12_28, qs12_28, qg12_29, qg12_30, qs12_30, qg12_31, qg12_32, qg12_33, qg12_34, qg12_35, qg12_36, qs12_36, qg12_37, qs12_37, qg12_38, qs12_38, qg12_39, qs12_39, qg12_40, qs12_40, qg12_41, qg12_42, qs12_42, qg12_43, qs12_43, qg12_44, qs12_44, qg12_45, qs12_45, qg12_46, qs12_46, qg12_47, qa12_1, qe12_1, ql12_1, qa12_4, qe12_4, ql12_4, qa12_5, qe12_5, ql12_5, qa12_6, qe12_6, ql12_6, qa12_9, qe12_9, ql12_9, qa12_10, qe12_10, ql12_10, qa12_11, qe12_11, ql12_11, qa12_12, qe12_12, ql12_12, qa12_14, qe12_14, ql12_14, qa12_15, qe12_15, ql12_15, qa12_16, qe12_16, ql12_16, qa12_17, qe12_17, ql12_17, qa12_19, qe12_19, ql12_19, qa12_20, qe12_20, ql12_20, qa12_21, qe12_21, ql12_21, qa12_22, qe12_22, ql12_22, qa12_29, qe12_29, ql12_29, qa12_31, qe12_31, ql12_31, qa12_32, qe12_32, ql12_32, qa12_33, qe12_33, ql12_33, qa12_34, qe12_34, ql12_34, qa12_35, qe12_35, ql12_35, qa12_41, qe12_41, ql12_41, qa12_47, qe12_47, ql12_47, oi_si, oi_sl, oi_sa, oi_sm, oi_sv, oi_sq, ol_si, ol_sl, ol_sa, ol_sm, ol_sv, ol_sq, oa_si, oa_sl, oa_sa, oa_sm, oa_sv, oa_sq, om_si, om_sl, om_sa, om_sm, om_sv, om_sq, ov_si, ov_sl, ov_sa, ov_sm, ov_sv, ov_sq, oq_si, oq_sl, oq_sa, oq_sm, oq_sv, oq_sq, Nat.reduceEqDiff, ↓reduceIte, n_add, n_addl, n_ladd, n_add1, n_mul, n_lmul, n_mull, n_sub, n_subl, n_subm, n_lt, n_le, n_eq, n_ltl, n_llt, n_lel, n_lle, n_eql, n_leq, n_m1, n_m1l, n_lt0, n_ge0, i_okc, i_okl, if_true, if_false, not_true, not_false, Nat.not_lt_zero, Nat.zero_le, d2, w3]
  · rw [if_neg c]
    have ltl := (Suf.tl hP.2.1 hk).len
    have hP1 := (hP.adv hk).kl (M' := sa (si M 7 (Int32.ofNat (TS.length - ts.length + 1))) 10 (upd (oa M 10) (113 + s.2.2.length) (Int32.ofNat (cdAll s.2.2).length))) (k_sa (by decide))
    have hC1 : CR (cdAll s.2.2) (sa (si M 7 (Int32.ofNat (TS.length - ts.length + 1))) 10 (upd (oa M 10) (113 + s.2.2.length) (Int32.ofNat (cdAll s.2.2).length))) := d8
    generalize hM1 : sa (si M 7 (Int32.ofNat (TS.length - ts.length + 1))) 10 (upd (oa M 10) (113 + s.2.2.length) (Int32.ofNat (cdAll s.2.2).length)) = M1 at hP1 hC1
    have a10 : oa M1 10 = upd (oa M 10) (113 + s.2.2.length) (Int32.ofNat (cdAll s.2.2).length) := by rw [← hM1, oa_sa, if_pos rfl]
    have m14 : om M1 14 = om M 14 := by rw [← hM1]; rfl
    have kl1 : KL M M1 := by
      rw [← hM1]
      exact (KL.of (k_si (by decide) : Keep [7, 8, 14] M _)).tr (KL.in (fun j hj => by rw [upd_ne (by omega)]; rfl))
    obtain ⟨M2, b1, b2, b3⟩ := m_allQ (N := N) hF hN TS ts.tail M1 (cdAll s.2.2) hP1 hC1 (by omega)
    have b1 : f_X12_all N 80 0 (pt sX12 80 M1 h) = _ := b1
    have a2 : oa M2 10 = oa M1 10 := b2.1.a (by decide)
    have m2 : om M2 14 = om M 14 := by rw [b2.1.m (by decide)]; exact m14
    -- behind the codes: the end, one rule more
    have fin : ∀ n, oi M2 13 = Int32.ofNat n → n < 1100 → ∃ M', f_X12_emit N 80 0 0 (pt sX12 80 M2 h) = some (pt sX12 80 M' h) ∧ KP M2 M' ∧ Keep [11, 12, 13] M2 M' ∧ ∀ cs, CR cs M2 → cs.length = n → CR (cs ++ [(0, 0)]) M' := by
      intro n hn hl
      have hl' := m_emitN (N := N) hF hn hl 0 0
      refine ⟨_, hl', emit_KP _ _ _, ?_, ?_⟩
      · (repeat (first | exact Keep.rf | assumption | refine k_si2 ?_ (by decide) | refine k_sa2 ?_ (by decide) | refine k_sm2 ?_ (by decide) | refine k_sl2 ?_ (by decide) | refine k_sv2 ?_ (by decide)))
      · intro cs hc hcl
        obtain ⟨M9, y1, y2, y3, y4⟩ := m_emit (N := N) hF hc (by omega) 0 0
        have y1 : f_X12_emit N 80 0 0 (pt sX12 80 M2 h) = _ := y1
        rw [hl'] at y1
        refine ⟨?_, ?_⟩
        · simp only [oi_si, oi_sl, oi_sa, oi_sm, oi_sv, oi_sq, ol_si, ol_sl, ol_sa, ol_sm, ol_sv, ol_sq, oa_si, oa_sl, oa_sa, oa_sm, oa_sv, oa_sq, om_si, om_sl, om_sa, om_sm, om_sv, om_sq, ov_si, ov_sl, ov_sa, ov_sm, ov_sv, ov_sq, oq_si, oq_sl, oq_sa, oq_sm, oq_sv, oq_sq, Nat.reduceEqDiff, ↓reduceIte, List.length_append, List.length_singleton, hcl]
        · intro j c hc'
          simp only [oi_si, oi_sl, oi_sa, oi_sm, oi_sv, oi_sq, ol_si, ol_sl, ol_sa, ol_sm, ol_sv, ol_sq, oa_si, oa_sl, oa_sa, oa_sm, oa_sv, oa_sq, om_si, om_sl, om_sa, om_sm, om_sv, om_sq, ov_si, ov_sl, ov_sa, ov_sm, ov_sv, ov_sq, oq_si, oq_sl, oq_sa, oq_sm, oq_sv, oq_sq, Nat.reduceEqDiff, ↓reduceIte]
          rcases Nat.lt_or_ge j cs.length with z | z
          · rw [upd_ne (by omega), upd_ne (by omega)]
            rw [List.getElem?_append_left z] at hc'
            exact hc.2 j c hc'
          · have := ln_of hc'
            rw [List.length_append] at this
            have this : j < cs.length + 1 := this
            have hj : j = cs.length := by omega
            subst hj
            rw [List.getElem?_append_right (Nat.le_refl _), Nat.sub_self] at hc'
            cases hc'
            rw [upd_eq (by omega), upd_eq (by omega)]
            exact ⟨rfl, rfl⟩
    have hend : ∀ n, oi M2 13 = Int32.ofNat n → n < 1100 → ∃ M', f_X12_readRule N 80 (pt sX12 80 M h) = some (pt sX12 80 (sa M' 10 (upd (oa M1 10) 62 (Int32.ofNat (s.2.2.length + 1)))) h) ∧ KP M2 M' ∧ Keep [11, 12, 13] M2 M' ∧ ∀ cs, CR cs M2 → cs.length = n → CR (cs ++ [(0, 0)]) M' := by
      intro n hn hl
      obtain ⟨M', y1, y2, y3, y4⟩ := fin n hn hl
      refine ⟨M', ?_, y2, y3, y4⟩
      have a62 : oa M' 10 = oa M1 10 := by rw [y3.a (by decide)]; exact a2
      have a62' : oa M1 10 62 = Int32.ofNat s.2.2.length := by
        rw [a10, upd_ne (by omega)]
        exact d2
      unfold f_X12_readRule
      subst hM1
      simp (disch := first | (with_reducible assumption) | (simp only [oi_si, oi_sl, oi_sa, oi_sm, oi_sv, oi_sq, ol_si, ol_sl, ol_sa, ol_sm, ol_sv, ol_sq, oa_si, oa_sl, oa_sa, oa_sm, oa_sv, oa_sq, om_si, om_sl, om_sa, om_sm, om_sv, om_sq, ov_si, ov_sl, ov_sa, ov_sm, ov_sv, ov_sq, oq_si, oq_sl, oq_sa, oq_sm, oq_sv, oq_sq, Nat.reduceEqDiff, ↓reduceIte]; done) | omega | (exact ixn (by omega) (by omega)) | (exact ixl (by decide) (by decide)) | (simp only [pt_len, pl, z0, z1, z2, z3, z4, z5, z6, z7, z8, z9, z10, z11, z12]; omega)) only [↓gb_m, ↓gc_m, ↓gl_s, ↓gg_m, gb_s, gc_s, gg_t, gqm_0, gqm_1, pt_pt, sa_sa, sm_sm, si_si, qk12, qg12_0, qs12_0, qg12_1, qg12_2, qs12_2, qg12_3, qs12_3, qg12_4, qg12_5, qg12_6, qg12_7, qs12_7, qg12_8, qs12_8, qg12_9, qg12_10, qg12_11, qg12_12, qg12_13, qs12_13, qg12_14, qg12_15, qg12_16, qg12_17, qg12_18, qs12_18, qg12_19, qg12_20, qg12_21, qg12_22, qg12_23, qs12_23, qg12_24, qs12_24, qg12_25, qs12_25, qg12_26, qs12_26, qg12_27, qs12_27, qg12_28, qs12_28, qg12_29, qg12_30, qs12_30, qg12_31, qg12_32, qg12_33, qg12_34, qg12_35, qg12_36, qs12_36, qg12_37, qs12_37, qg12_38, qs12_38, qg12_39, qs12_39, qg12_40, qs12_40, qg12_41, qg12_42, qs12_42, qg12_43, qs12_43, qg12_44, qs12_44, qg12_45, qs12_45, qg12_46, qs12_46, qg12_47, qa12_1, qe12_1, ql12_1, qa12_4, qe12_4, ql12_4, qa12_5, qe12_5, ql12_5, qa12_6, qe12_6, ql12_6, qa12_9, qe12_9, ql12_9, qa12_10, qe12_10, ql12_10, qa12_11, qe12_11, ql12_11, qa12_12, qe12_12, ql12_12, qa12_14, qe12_14, ql12_14, qa12_15, qe12_15, ql12_15, qa12_16, qe12_16, ql12_16, qa12_17, qe12_17, ql12_17, qa12_19, qe12_19, ql12_19, qa12_20, qe12_20, ql12_20, qa12_21, qe12_21, ql12_21, qa12_22, qe12_22, ql12_22, qa12_29, qe12_29, ql12_29, qa12_31, qe12_31, ql12_31, qa12_32, qe12_32, ql12_32, qa12_33, qe12_33, ql12_33, qa12_34, qe12_34, ql12_34, qa12_35, qe12_35, ql12_35, qa12_41, qe12_41, ql12_41, qa12_47, qe12_47, ql12_47, oi_si, oi_sl, oi_sa, oi_sm, oi_sv, oi_sq, ol_si, ol_sl, ol_sa, ol_sm, ol_sv, ol_sq, oa_si, oa_sl, oa_sa, oa_sm, oa_sv, oa_sq, om_si, om_sl, om_sa, om_sm, om_sv, om_sq, ov_si, ov_sl, ov_sa, ov_sm, ov_sv, ov_sq, oq_si, oq_sl, oq_sa, oq_sm, oq_sv, oq_sq, Nat.reduceEqDiff, ↓reduceIte, n_add, n_addl, n_ladd, n_add1, n_mul, n_lmul, n_mull, n_sub, n_subl, n_subm, n_lt, n_le, n_eq, n_ltl, n_llt, n_lel, n_lle, n_eql, n_leq, n_m1, n_m1l, n_lt0, n_ge0, i_okc, i_okl, if_true, if_false, not_true, not_false, Nat.not_lt_zero, Nat.zero_le, d2, c, q4, d13, gnar_0, b1, y1, a62, a62']
    have kl3 : ∀ M', KP M2 M' → KL M (sa M' 10 (upd (oa M1 10) 62 (Int32.ofNat (s.2.2.length + 1)))) := by
      intro M' hq
      refine ((kl1.tr (KL.kp b2)).tr (KL.kp hq)).tr (KL.in (fun j hj => ?_))
      rw [upd_ne (by omega), hq.1.a (by decide), a2]
    unfold f_X12_readRule at hend
    cases hq : pAll (pPart 5) ts.tail with
    | inl f =>
      rw [hq] at b3
      obtain ⟨b4, n, b5, b6⟩ := b3
      obtain ⟨M', y1, y2, y3, y4⟩ := hend n b5 (by omega)
      have b7 : PF f M' := b4.kp y3 (by decide)
      exact ⟨_, y1, kl3 M' y2, b7⟩
    | inr x =>
      rw [hq] at b3
      obtain ⟨b4, b5⟩ := b3
      obtain ⟨gd1, gd2, gd3⟩ := Good.rule ts.tail hP1.2.1 x.1 x.2 hq
      obtain ⟨M', y1, y2, y3, y4⟩ := hend _ b5.1 (by rw [List.length_append]; omega)
      refine ⟨_, y1, kl3 M' y2, ?_, ?_⟩
      · exact (b4.kp y3 (by decide)).kl (k_sa (by decide))
      · obtain ⟨e1, e2, e3, e4, e5, e6, e7, e8⟩ := hD
        have s0 := hs.1
        have s1 := hs.2.1
        have far : ∀ j, j ≠ 62 → j ≠ 113 + s.2.2.length → upd (oa M1 10) 62 (Int32.ofNat (s.2.2.length + 1)) j = oa M 10 j := by
          intro j y1 y2
          rw [upd_ne y1, a10, upd_ne y2]
        refine ⟨?_, ?_, ?_, ?_, ?_, ?_, ?_, ?_⟩
        · rw [oa_sa, if_pos rfl, far _ (by omega) (by omega)]
          exact e1
        · rw [oa_sa, if_pos rfl, far _ (by omega) (by omega)]
          exact e2
        · rw [oa_sa, if_pos rfl, upd_eq rfl]
          show _ = Int32.ofNat (s.2.2 ++ [x.1]).length
          rw [List.length_append]
          rfl
        · intro r z hz
          have := ln_of hz
          have this : r < s.1.length := this
          rw [oa_sa, if_pos rfl, far _ (by omega) (by omega), far _ (by omega) (by omega)]
          exact e4 r z hz
        · intro g z hz
          have := ln_of hz
          have this : g < s.2.1.length := this
          rw [oa_sa, if_pos rfl, far _ (by omega) (by omega), far _ (by omega) (by omega), far _ (by omega) (by omega), om_sa, y3.m (by decide), m2]
          exact e5 g z hz
        · intro g g1 g2
          rw [oa_sa, if_pos rfl, far _ (by omega) (by omega), far _ (by omega) (by omega)]
          exact e6 g g1 g2
        · intro k hk
          have hk : k < (s.2.2 ++ [x.1]).length := hk
          rw [List.length_append] at hk
          have hk : k < s.2.2.length + 1 := hk
          rw [oa_sa, if_pos rfl]
          show _ = Int32.ofNat (cdAll ((s.2.2 ++ [x.1]).take k)).length
          rcases Nat.lt_or_ge k s.2.2.length with z | z
          · rw [far _ (by omega) (by omega), List.take_append_of_le_length (by omega)]
            exact e7 k z
          · have z2 : k = s.2.2.length := by omega
            subst z2
            rw [upd_ne (by omega), a10, upd_eq rfl, List.take_append_of_le_length (Nat.le_refl _), List.take_length]
        · have := y4 (cdAll s.2.2 ++ x.1) b5 rfl
          show CR (cdAll (s.2.2 ++ [x.1])) _
          rw [cdAll_app]
          exact this
theorem m_readLine (hF : 80 + 25 ≤ h.length) (hN : 2000 ≤ N) {TS ts : List Tok} {M : OD} {s : PS} (hP : PM TS ts M) (hD : DR s M) (hs : PSk s) (hb : (cdAll s.2.2).length + ts.length ≤ 1010) : ∃ M', f_X12_readLine N 80 (pt sX12 80 M h) = some (pt sX12 80 M' h) ∧ KL M M' ∧ LO TS (pLine s ts) M' := by
  have w0 : f_X12_isWord N 80 0 (pt sX12 80 M h) = some (eB (isWd wRoom ts), pt sX12 80 M h) := m_isWd hF hP (k := 0) (by omega)
  have w1 : f_X12_isWord N 80 1 (pt sX12 80 M h) = some (eB (isWd wGuest ts), pt sX12 80 M h) := m_isWd hF hP (k := 1) (by omega)
  have w5 : f_X12_isWord N 80 5 (pt sX12 80 M h) = some (eB (isWd wRule ts), pt sX12 80 M h) := m_isWd hF hP (k := 5) (by omega)
  have t0 : ((1 : Int32) = 0) = False := eq_false (by decide)
  have eT : eB true = 1 := rfl
  have eF : eB false = 0 := rfl
  unfold f_X12_readLine f_X12_readLine_50 pLine
  cases c0 : isWd wRoom ts with
  | true =>
    rw [c0, eT] at w0
    obtain ⟨M', a1, a2, a3⟩ := m_readRoom (N := N) hF hP hD hs (by rw [(isWd_k c0).1]; decide)
    refine ⟨M', ?_, a2, a3⟩
    simp (disch := first | (with_reducible assumption) | (simp only [oi_si, oi_sl, oi_sa, oi_sm, oi_sv, oi_sq, ol_si, ol_sl, ol_sa, ol_sm, ol_sv, ol_sq, oa_si, oa_sl, oa_sa, oa_sm, oa_sv, oa_sq, om_si, om_sl, om_sa, om_sm, om_sv, om_sq, ov_si, ov_sl, ov_sa, ov_sm, ov_sv, ov_sq, oq_si, oq_sl, oq_sa, oq_sm, oq_sv, oq_sq, Nat.reduceEqDiff, ↓reduceIte]; done) | omega | (exact ixn (by omega) (by omega)) | (exact ixl (by decide) (by decide)) | (simp only [pt_len, pl, z0, z1, z2, z3, z4, z5, z6, z7, z8, z9, z10, z11, z12]; omega)) only [↓gb_m, ↓gc_m, ↓gl_s, ↓gg_m, gb_s, gc_s, gg_t, gqm_0, gqm_1, pt_pt, sa_sa, sm_sm, si_si, qk12, qg12_0, qs12_0, qg12_1, qg12_2, qs12_2, qg12_3, qs12_3, qg12_4, qg12_5, qg12_6, qg12_7, qs12_7, qg12_8, qs12_8, qg12_9, qg12_10, qg12_11, qg12_12, qg12_13, qs12_13, qg12_14, qg12_15, qg12_16, qg12_17, qg12_18, qs12_18, qg12_19, qg12_20, qg12_21, qg12_22, qg12_23, qs12_23, qg12_24, qs12_24, qg12_25, qs12_25, qg12_26, qs12_26, qg12_27, qs12_27, qg12_28, qs12_28, qg12_29, qg12_30, qs12_30, qg12_31, qg12_32, qg12_33, qg12_34, qg12_35, qg12_36, qs12_36, qg12_37, qs12_37, qg12_38, qs12_38, qg12_39, qs12_39, qg12_40, qs12_40, qg12_41, qg12_42, qs12_42, qg12_43, qs12_43, qg12_44, qs12_44, qg12_45, qs12_45, qg12_46, qs12_46, qg12_47, qa12_1, qe12_1, ql12_1, qa12_4, qe12_4, ql12_4, qa12_5, qe12_5, ql12_5, qa12_6, qe12_6, ql12_6, qa12_9, qe12_9, ql12_9, qa12_10, qe12_10, ql12_10, qa12_11, qe12_11, ql12_11, qa12_12, qe12_12, ql12_12, qa12_14, qe12_14, ql12_14, qa12_15, qe12_15, ql12_15, qa12_16, qe12_16, ql12_16, qa12_17, qe12_17, ql12_17, qa12_19, qe12_19, ql12_19, qa12_20, qe12_20, ql12_20, qa12_21, qe12_21, ql12_21, qa12_22, qe12_22, ql12_22, qa12_29, qe12_29, ql12_29, qa12_31, qe12_31, ql12_31, qa12_32, qe12_32, ql12_32, qa12_33, qe12_33, ql12_33, qa12_34, qe12_34, ql12_34, qa12_35, qe12_35, ql12_35, qa12_41, qe12_41, ql12_41, qa12_47, qe12_47, ql12_47, oi_si, oi_sl, oi_sa, oi_sm, oi_sv, oi_sq, ol_si, ol_sl, ol_sa, ol_sm, ol_sv, ol_sq, oa_si, oa_sl, oa_sa, oa_sm, oa_sv, oa_sq, om_si, om_sl, om_sa, om_sm, om_sv, om_sq, ov_si, ov_sl, ov_sa, ov_sm, ov_sv, ov_sq, oq_si, oq_sl, oq_sa, oq_sm, oq_sv, oq_sq, Nat.reduceEqDiff, ↓reduceIte, n_add, n_addl, n_ladd, n_add1, n_mul, n_lmul, n_mull, n_sub, n_subl, n_subm, n_lt, n_le, n_eq, n_ltl, n_llt, n_lel, n_lle, n_eql, n_leq, n_m1, n_m1l, n_lt0, n_ge0, i_okc, i_okl, if_true, if_false, not_true, not_false, Nat.not_lt_zero, Nat.zero_le, w0, t0, a1]
  | false =>
    rw [c0, eF] at w0
    cases c1 : isWd wGuest ts with
    | true =>
      rw [c1, eT] at w1
      obtain ⟨M', a1, a2, a3⟩ := m_readGuest (N := N) hF hN hP hD hs (by rw [(isWd_k c1).1]; decide)
      refine ⟨M', ?_, a2, a3⟩
      simp (disch := first | (with_reducible assumption) | (simp only [oi_si, oi_sl, oi_sa, oi_sm, oi_sv, oi_sq, ol_si, ol_sl, ol_sa, ol_sm, ol_sv, ol_sq, oa_si, oa_sl, oa_sa, oa_sm, oa_sv, oa_sq, om_si, om_sl, om_sa, om_sm, om_sv, om_sq, ov_si, ov_sl, ov_sa, ov_sm, ov_sv, ov_sq, oq_si, oq_sl, oq_sa, oq_sm, oq_sv, oq_sq, Nat.reduceEqDiff, ↓reduceIte]; done) | omega | (exact ixn (by omega) (by omega)) | (exact ixl (by decide) (by decide)) | (simp only [pt_len, pl, z0, z1, z2, z3, z4, z5, z6, z7, z8, z9, z10, z11, z12]; omega)) only [↓gb_m, ↓gc_m, ↓gl_s, ↓gg_m, gb_s, gc_s, gg_t, gqm_0, gqm_1, pt_pt, sa_sa, sm_sm, si_si, qk12, qg12_0, qs12_0, qg12_1, qg12_2, qs12_2, qg12_3, qs12_3, qg12_4, qg12_5, qg12_6, qg12_7, qs12_7, qg12_8, qs12_8, qg12_9, qg12_10, qg12_11, qg12_12, qg12_13, qs12_13, qg12_14, qg12_15, qg12_16, qg12_17, qg12_18, qs12_18, qg12_19, qg12_20, qg12_21, qg12_22, qg12_23, qs12_23, qg12_24, qs12_24, qg12_25, qs12_25, qg12_26, qs12_26, qg12_27, qs12_27, qg12_28, qs12_28, qg12_29, qg12_30, qs12_30, qg12_31, qg12_32, qg12_33, qg12_34, qg12_35, qg12_36, qs12_36, qg12_37, qs12_37, qg12_38, qs12_38, qg12_39, qs12_39, qg12_40, qs12_40, qg12_41, qg12_42, qs12_42, qg12_43, qs12_43, qg12_44, qs12_44, qg12_45, qs12_45, qg12_46, qs12_46, qg12_47, qa12_1, qe12_1, ql12_1, qa12_4, qe12_4, ql12_4, qa12_5, qe12_5, ql12_5, qa12_6, qe12_6, ql12_6, qa12_9, qe12_9, ql12_9, qa12_10, qe12_10, ql12_10, qa12_11, qe12_11, ql12_11, qa12_12, qe12_12, ql12_12, qa12_14, qe12_14, ql12_14, qa12_15, qe12_15, ql12_15, qa12_16, qe12_16, ql12_16, qa12_17, qe12_17, ql12_17, qa12_19, qe12_19, ql12_19, qa12_20, qe12_20, ql12_20, qa12_21, qe12_21, ql12_21, qa12_22, qe12_22, ql12_22, qa12_29, qe12_29, ql12_29, qa12_31, qe12_31, ql12_31, qa12_32, qe12_32, ql12_32, qa12_33, qe12_33, ql12_33, qa12_34, qe12_34, ql12_34, qa12_35, qe12_35, ql12_35, qa12_41, qe12_41, ql12_41, qa12_47, qe12_47, ql12_47, oi_si, oi_sl, oi_sa, oi_sm, oi_sv, oi_sq, ol_si, ol_sl, ol_sa, ol_sm, ol_sv, ol_sq, oa_si, oa_sl, oa_sa, oa_sm, oa_sv, oa_sq, om_si, om_sl, om_sa, om_sm, om_sv, om_sq, ov_si, ov_sl, ov_sa, ov_sm, ov_sv, ov_sq, oq_si, oq_sl, oq_sa, oq_sm, oq_sv, oq_sq, Nat.reduceEqDiff, ↓reduceIte, n_add, n_addl, n_ladd, n_add1, n_mul, n_lmul, n_mull, n_sub, n_subl, n_subm, n_lt, n_le, n_eq, n_ltl, n_llt, n_lel, n_lle, n_eql, n_leq, n_m1, n_m1l, n_lt0, n_ge0, i_okc, i_okl, if_true, if_false, not_true, not_false, Nat.not_lt_zero, Nat.zero_le, w0, w1, t0, a1]
    | false =>
      rw [c1, eF] at w1
      cases c5 : isWd wRule ts with
      | true =>
        rw [c5, eT] at w5
        obtain ⟨M', a1, a2, a3⟩ := m_readRule (N := N) hF hN hP hD hs (by rw [(isWd_k c5).1]; decide) hb
        refine ⟨M', ?_, a2, a3⟩
        simp (disch := first | (with_reducible assumption) | (simp only [oi_si, oi_sl, oi_sa, oi_sm, oi_sv, oi_sq, ol_si, ol_sl, ol_sa, ol_sm, ol_sv, ol_sq, oa_si, oa_sl, oa_sa, oa_sm, oa_sv, oa_sq, om_si, om_sl, om_sa, om_sm, om_sv, om_sq, ov_si, ov_sl, ov_sa, ov_sm, ov_sv, ov_sq, oq_si, oq_sl, oq_sa, oq_sm, oq_sv, oq_sq, Nat.reduceEqDiff, ↓reduceIte]; done) | omega | (exact ixn (by omega) (by omega)) | (exact ixl (by decide) (by decide)) | (simp only [pt_len, pl, z0, z1, z2, z3, z4, z5, z6, z7, z8, z9, z10, z11, z12]; omega)) only [↓gb_m, ↓gc_m, ↓gl_s, ↓gg_m, gb_s, gc_s, gg_t, gqm_0, gqm_1, pt_pt, sa_sa, sm_sm, si_si, qk12, qg12_0, qs12_0, qg12_1, qg12_2, qs12_2, qg12_3, qs12_3, qg12_4, qg12_5, qg12_6, qg12_7, qs12_7, qg12_8, qs12_8, qg12_9, qg12_10, qg12_11, qg12_12, qg12_13, qs12_13, qg12_14, qg12_15, qg12_16, qg12_17, qg12_18, qs12_18, qg12_19, qg12_20, qg12_21, qg12_22, qg12_23, qs12_23, qg12_24, qs12_24, qg12_25, qs12_25, qg12_26, qs12_26, qg12_27, qs12_27, qg12_28, qs12_28, qg12_29, qg12_30, qs12_30, qg12_31, qg12_32, qg12_33, qg12_34, qg12_35, qg12_36, qs12_36, qg12_37, qs12_37, qg12_38, qs12_38, qg12_39, qs12_39, qg12_40, qs12_40, qg12_41, qg12_42, qs12_42, qg12_43, qs12_43, qg12_44, qs12_44, qg12_45, qs12_45, qg12_46, qs12_46, qg12_47, qa12_1, qe12_1, ql12_1, qa12_4, qe12_4, ql12_4, qa12_5, qe12_5, ql12_5, qa12_6, qe12_6, ql12_6, qa12_9, qe12_9, ql12_9, qa12_10, qe12_10, ql12_10, qa12_11, qe12_11, ql12_11, qa12_12, qe12_12, ql12_12, qa12_14, qe12_14, ql12_14, qa12_15, qe12_15, ql12_15, qa12_16, qe12_16, ql12_16, qa12_17, qe12_17, ql12_17, qa12_19, qe12_19, ql12_19, qa12_20, qe12_20, ql12_20, qa12_21, qe12_21, ql12_21, qa12_22, qe12_22, ql12_22, qa12_29, qe12_29, ql12_29, qa12_31, qe12_31, ql12_31, qa12_32, qe12_32, ql12_32, qa12_33, qe12_33, ql12_33, qa12_34, qe12_34, ql12_34, qa12_35, qe12_35, ql12_35, qa12_41, qe12_41, ql12_41, qa12_47, qe12_47, ql12_47, oi_si, oi_sl, oi_sa, oi_sm, oi_sv, oi_sq, ol_si, ol_sl, ol_sa, ol_sm, ol_sv, ol_sq, oa_si, oa_sl, oa_sa, oa_sm, oa_sv, oa_sq, om_si, om_sl, om_sa, om_sm, om_sv, om_sq, ov_si, ov_sl, ov_sa, ov_sm, ov_sv, ov_sq, oq_si, oq_sl, oq_sa, oq_sm, oq_sv, oq_sq, Nat.reduceEqDiff, ↓reduceIte, n_add, n_addl, n_ladd, n_add1, n_mul, n_lmul, n_mull, n_sub, n_subl, n_subm, n_lt, n_le, n_eq, n_ltl, n_llt, n_lel, n_lle, n_eql, n_leq, n_m1, n_m1l, n_lt0, n_ge0, i_okc, i_okl, if_true, if_false, not_true, not_false, Nat.not_lt_zero, Nat.zero_le, w0, w1, w5, t0, a1]
      | false =>
        rw [c5, eF] at w5
        obtain ⟨a1, a2⟩ := m_wrong (N := N) hF hP (k := 1) (by omega) (by omega)
        have a1 : f_X12_wrong N 80 1 (pt sX12 80 M h) = _ := a1
        refine ⟨_, ?_, KL.of (k_si (by decide)), a2⟩
        simp (disch := first | (with_reducible assumption) | (simp only [oi_si, oi_sl, oi_sa, oi_sm, oi_sv, oi_sq, ol_si, ol_sl, ol_sa, ol_sm, ol_sv, ol_sq, oa_si, oa_sl, oa_sa, oa_sm, oa_sv, oa_sq, om_si, om_sl, om_sa, om_sm, om_sv, om_sq, ov_si, ov_sl, ov_sa, ov_sm, ov_sv, ov_sq, oq_si, oq_sl, oq_sa, oq_sm, oq_sv, oq_sq, Nat.reduceEqDiff, ↓reduceIte]; done) | omega | (exact ixn (by omega) (by omega)) | (exact ixl (by decide) (by decide)) | (simp only [pt_len, pl, z0, z1, z2, z3, z4, z5, z6, z7, z8, z9, z10, z11, z12]; omega)) only [↓gb_m, ↓gc_m, ↓gl_s, ↓gg_m, gb_s, gc_s, gg_t, gqm_0, gqm_1, pt_pt, sa_sa, sm_sm, si_si, qk12, qg12_0, qs12_0, qg12_1, qg12_2, qs12_2, qg12_3, qs12_3, qg12_4, qg12_5, qg12_6, qg12_7, qs12_7, qg12_8, qs12_8, qg12_9, qg12_10, qg12_11, qg12_12, qg12_13, qs12_13, qg12_14, qg12_15, qg12_16, qg12_17, qg12_18, qs12_18, qg12_19, qg12_20, qg12_21, qg12_22, qg12_23, qs12_23, qg12_24, qs12_24, qg12_25, qs12_25, qg12_26, qs12_26, qg12_27, qs12_27, qg12_28, qs12_28, qg12_29, qg12_30, qs12_30, qg12_31, qg12_32, qg12_33, qg12_34, qg12_35, qg12_36, qs12_36, qg12_37, qs12_37, qg12_38, qs12_38, qg12_39, qs12_39, qg12_40, qs12_40, qg12_41, qg12_42, qs12_42, qg12_43, qs12_43, qg12_44, qs12_44, qg12_45, qs12_45, qg12_46, qs12_46, qg12_47, qa12_1, qe12_1, ql12_1, qa12_4, qe12_4, ql12_4, qa12_5, qe12_5, ql12_5, qa12_6, qe12_6, ql12_6, qa12_9, qe12_9, ql12_9, qa12_10, qe12_10, ql12_10, qa12_11, qe12_11, ql12_11, qa12_12, qe12_12, ql12_12, qa12_14, qe12_14, ql12_14, qa12_15, qe12_15, ql12_15, qa12_16, qe12_16, ql12_16, qa12_17, qe12_17, ql12_17, qa12_19, qe12_19, ql12_19, qa12_20, qe12_20, ql12_20, qa12_21, qe12_21, ql12_21, qa12_22, qe12_22, ql12_22, qa12_29, qe12_29, ql12_29, qa12_31, qe12_31, ql12_31, qa12_32, qe12_32, ql12_32, qa12_33, qe12_33, ql12_33, qa12_34, qe12_34, ql12_34, qa12_35, qe12_35, ql12_35, qa12_41, qe12_41, ql12_41, qa12_47, qe12_47, ql12_47, oi_si, oi_sl, oi_sa, oi_sm, oi_sv, oi_sq, ol_si, ol_sl, ol_sa, ol_sm, ol_sv, ol_sq, oa_si, oa_sl, oa_sa, oa_sm, oa_sv, oa_sq, om_si, om_sl, om_sa, om_sm, om_sv, om_sq, ov_si, ov_sl, ov_sa, ov_sm, ov_sv, ov_sq, oq_si, oq_sl, oq_sa, oq_sm, oq_sv, oq_sq, Nat.reduceEqDiff, ↓reduceIte, n_add, n_addl, n_ladd, n_add1, n_mul, n_lmul, n_mull, n_sub, n_subl, n_subm, n_lt, n_le, n_eq, n_ltl, n_llt, n_lel, n_lle, n_eql, n_leq, n_m1, n_m1l, n_lt0, n_ge0, i_okc, i_okl, if_true, if_false, not_true, not_false, Nat.not_lt_zero, Nat.zero_le, w0, w1, w5, t0, a1]
end MLine2

