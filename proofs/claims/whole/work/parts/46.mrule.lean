/-! The model: what a rule gives -/
def Pil (f : Nat → Int32) : List Int32 → Prop
  | [] => True
  | x :: st => f st.length = x ∧ Pil f st
theorem Pil_upd {f : Nat → Int32} {k : Nat} {x : Int32} : ∀ {st : List Int32}, Pil f st → st.length ≤ k → Pil (upd f k x) st := by
  intro st
  induction st with
  | nil => intro _ _; trivial
  | cons y st ih =>
    intro h1 h2
    refine ⟨?_, ih h1.2 (by rw [List.length_cons] at h2; omega)⟩
    rw [List.length_cons] at h2
    rw [upd_ne (by omega)]
    exact h1.1
theorem dep_spec {d d' : Nat} {c : Cd} (h : depS d c = some d') : (((c.1 = 1 ∧ c.2 < 10000) ∨ (c.1 = 2 ∧ c.2 < 8)) ∧ d < 32 ∧ d' = d + 1) ∨ (c.1 = 3 ∧ 1 ≤ d ∧ d' = d) ∨ (4 ≤ c.1 ∧ c.1 ≤ 10 ∧ 2 ≤ d ∧ d' = d - 1) := by
  unfold depS at h
  split at h
  · split at h
    · cases h
      rename_i h1 h2
      exact Or.inl ⟨h1, h2, rfl⟩
    · cases h
  · split at h
    · split at h
      · cases h
        rename_i h1 h2 h3
        exact Or.inr (Or.inl ⟨h2, h3, rfl⟩)
      · cases h
    · split at h
      · split at h
        · cases h
          rename_i h1 h2 h3 h4
          exact Or.inr (Or.inr ⟨h3.1, h3.2, h4, rfl⟩)
        · cases h
      · cases h
theorem oneS_t {p : Prop} [Decidable p] (h : p) : oneS p = 1 := if_pos h
theorem oneS_f {p : Prop} [Decidable p] (h : ¬ p) : oneS p = 0 := if_neg h
theorem m_both {N : Nat} {c : Nat} (h1 : 4 ≤ c) (h2 : c ≤ 10) (a b : Int32) (h : PH) : f_X12_both N (Int32.ofNat c) a b h = some (bothS c a b, h) := by
  unfold f_X12_both bothS
  have hc : c = 4 ∨ c = 5 ∨ c = 6 ∨ c = 7 ∨ c = 8 ∨ c = 9 ∨ c = 10 := by omega
  rcases hc with rfl | rfl | rfl | rfl | rfl | rfl | rfl
  · rfl
  · rfl
  · rfl
  · simp (disch := first | (with_reducible assumption) | (simp only [oi_si, oi_sl, oi_sa, oi_sm, oi_sv, oi_sq, ol_si, ol_sl, ol_sa, ol_sm, ol_sv, ol_sq, oa_si, oa_sl, oa_sa, oa_sm, oa_sv, oa_sq, om_si, om_sl, om_sa, om_sm, om_sv, om_sq, ov_si, ov_sl, ov_sa, ov_sm, ov_sv, ov_sq, oq_si, oq_sl, oq_sa, oq_sm, oq_sv, oq_sq, Nat.reduceEqDiff, ↓reduceIte]; done) | omega | (exact ixn (by omega) (by omega)) | (exact ixl (by decide) (by decide)) | (simp only [pt_len, pl, z0, z1, z2, z3, z4, z5, z6, z7, z8, z9, z10, z11, z12]; omega)) only [n_add, n_addl, n_ladd, n_add1, n_mul, n_lmul, n_mull, n_sub, n_subl, n_subm, n_lt, n_le, n_eq, n_ltl, n_llt, n_lel, n_lle, n_eql, n_leq, n_m1, n_m1l, n_lt0, n_ge0, i_okc, i_okl, if_true, if_false, not_true, not_false, Nat.not_lt_zero, Nat.zero_le, reduceIte, Nat.reduceEqDiff]
    unfold f_X12_both_62
    by_cases q : a < b
    · rw [if_neg (by rw [i_lt] at q; rw [i_le]; omega), oneS_t q]
    · rw [if_pos (by rw [i_lt] at q; rw [i_le]; omega), oneS_f q]
  · simp (disch := first | (with_reducible assumption) | (simp only [oi_si, oi_sl, oi_sa, oi_sm, oi_sv, oi_sq, ol_si, ol_sl, ol_sa, ol_sm, ol_sv, ol_sq, oa_si, oa_sl, oa_sa, oa_sm, oa_sv, oa_sq, om_si, om_sl, om_sa, om_sm, om_sv, om_sq, ov_si, ov_sl, ov_sa, ov_sm, ov_sv, ov_sq, oq_si, oq_sl, oq_sa, oq_sm, oq_sv, oq_sq, Nat.reduceEqDiff, ↓reduceIte]; done) | omega | (exact ixn (by omega) (by omega)) | (exact ixl (by decide) (by decide)) | (simp only [pt_len, pl, z0, z1, z2, z3, z4, z5, z6, z7, z8, z9, z10, z11, z12]; omega)) only [n_add, n_addl, n_ladd, n_add1, n_mul, n_lmul, n_mull, n_sub, n_subl, n_subm, n_lt, n_le, n_eq, n_ltl, n_llt, n_lel, n_lle, n_eql, n_leq, n_m1, n_m1l, n_lt0, n_ge0, i_okc, i_okl, if_true, if_false, not_true, not_false, Nat.not_lt_zero, Nat.zero_le, reduceIte, Nat.reduceEqDiff]
    unfold f_X12_both_73
    by_cases q : a = b
    · rw [if_pos q, oneS_t q]
    · rw [if_neg q, oneS_f q]
  · simp (disch := first | (with_reducible assumption) | (simp only [oi_si, oi_sl, oi_sa, oi_sm, oi_sv, oi_sq, ol_si, ol_sl, ol_sa, ol_sm, ol_sv, ol_sq, oa_si, oa_sl, oa_sa, oa_sm, oa_sv, oa_sq, om_si, om_sl, om_sa, om_sm, om_sv, om_sq, ov_si, ov_sl, ov_sa, ov_sm, ov_sv, ov_sq, oq_si, oq_sl, oq_sa, oq_sm, oq_sv, oq_sq, Nat.reduceEqDiff, ↓reduceIte]; done) | omega | (exact ixn (by omega) (by omega)) | (exact ixl (by decide) (by decide)) | (simp only [pt_len, pl, z0, z1, z2, z3, z4, z5, z6, z7, z8, z9, z10, z11, z12]; omega)) only [n_add, n_addl, n_ladd, n_add1, n_mul, n_lmul, n_mull, n_sub, n_subl, n_subm, n_lt, n_le, n_eq, n_ltl, n_llt, n_lel, n_lle, n_eql, n_leq, n_m1, n_m1l, n_lt0, n_ge0, i_okc, i_okl, if_true, if_false, not_true, not_false, Nat.not_lt_zero, Nat.zero_le, reduceIte, Nat.reduceEqDiff]
    unfold f_X12_both_86 f_X12_both_87
    by_cases q : a = 0
    · rw [if_pos q, oneS_f (fun z => z.1 q)]
    · rw [if_neg q]
      by_cases q' : b = 0
      · rw [if_pos q', oneS_f (fun z => z.2 q')]
      · rw [if_neg q', oneS_t ⟨q, q'⟩]
  · simp (disch := first | (with_reducible assumption) | (simp only [oi_si, oi_sl, oi_sa, oi_sm, oi_sv, oi_sq, ol_si, ol_sl, ol_sa, ol_sm, ol_sv, ol_sq, oa_si, oa_sl, oa_sa, oa_sm, oa_sv, oa_sq, om_si, om_sl, om_sa, om_sm, om_sv, om_sq, ov_si, ov_sl, ov_sa, ov_sm, ov_sv, ov_sq, oq_si, oq_sl, oq_sa, oq_sm, oq_sv, oq_sq, Nat.reduceEqDiff, ↓reduceIte]; done) | omega | (exact ixn (by omega) (by omega)) | (exact ixl (by decide) (by decide)) | (simp only [pt_len, pl, z0, z1, z2, z3, z4, z5, z6, z7, z8, z9, z10, z11, z12]; omega)) only [n_add, n_addl, n_ladd, n_add1, n_mul, n_lmul, n_mull, n_sub, n_subl, n_subm, n_lt, n_le, n_eq, n_ltl, n_llt, n_lel, n_lle, n_eql, n_leq, n_m1, n_m1l, n_lt0, n_ge0, i_okc, i_okl, if_true, if_false, not_true, not_false, Nat.not_lt_zero, Nat.zero_le, reduceIte, Nat.reduceEqDiff]
    unfold f_X12_both_96 f_X12_both_101
    by_cases q : a = 0
    · rw [if_pos q]
      by_cases q' : b = 0
      · rw [if_pos q', oneS_f (by rintro (z | z); exact z q; exact z q')]
      · rw [if_neg q', oneS_t (Or.inr q')]
    · rw [if_neg q, oneS_t (Or.inl q)]
theorem m_worth {N : Nat} {h : PH} (hF : 80 + 25 ≤ h.length) {fs : Nat → Int32} : ∀ (cs : List Cd) (i : Nat) (st : List Int32) (M : OD) (n : Nat),
    (∀ j c, cs[j]? = some c → oa M 11 (i + j) = Int32.ofNat c.1 ∧ oa M 12 (i + j) = cArg c) → oa M 11 (i + cs.length) = 0 → i + cs.length < 1100 → depL st.length cs = some 1 → Pil (oa M 16) st → (∀ k, k < 8 → oa M 15 k = fs k) → cs.length < n → st.length ≤ 32 →
    ∃ M', gi (fun zk zs => f_X12_worthAt_4 N zk zs.1 zs.2.1 zs.2.2.1 zs.2.2.2) n (80, Int32.ofNat st.length, Int32.ofNat i, pt sX12 80 M h) = some ((runS fs st cs).headD 0, pt sX12 80 M' h) ∧ Keep [16] M M' := by
  intro cs
  induction cs with
  | nil =>
    intro i st M n hc h0 hl hd hp hf hn hs
    obtain ⟨n, rfl⟩ : ∃ m, n = m + 1 := ⟨n - 1, by simp at hn; omega⟩
    rw [gi_1]
    generalize hz : gi _ n = zk
    dsimp only
    simp only [List.length_nil, Nat.add_zero] at h0 hl
    unfold f_X12_worthAt_4
    simp (disch := first | (with_reducible assumption) | (simp only [oi_si, oi_sl, oi_sa, oi_sm, oi_sv, oi_sq, ol_si, ol_sl, ol_sa, ol_sm, ol_sv, ol_sq, oa_si, oa_sl, oa_sa, oa_sm, oa_sv, oa_sq, om_si, om_sl, om_sa, om_sm, om_sv, om_sq, ov_si, ov_sl, ov_sa, ov_sm, ov_sv, ov_sq, oq_si, oq_sl, oq_sa, oq_sm, oq_sv, oq_sq, Nat.reduceEqDiff, ↓reduceIte]; done) | omega | (exact ixn (by omega) (by omega)) | (exact ixl (by decide) (by decide)) | (simp only [pt_len, pl, z0, z1, z2, z3, z4, z5, z6, z7, z8, z9, z10, z11, z12]; omega)) only [↓gb_m, ↓gc_m, ↓gl_s, ↓gg_m, gb_s, gc_s, gg_t, gqm_0, gqm_1, pt_pt, sa_sa, sm_sm, si_si, qk12, qg12_0, qs12_0, qg12_1, qg12_2, qs12_2, qg12_3, qs12_3, qg12_4, qg12_5, qg12_6, qg12_7, qs12_7, qg12_8, qs12_8, qg12_9, qg12_10, qg12_11, qg12_12, qg12_13, qs12_13, qg12_14, qg12_15, qg12_16, qg12_17, qg12_18, qs12_18, qg12_19, qg12_20, qg12_21, qg12_22, qg12_23, qs12_23, qg12_24, qs12_24, qg12_25, qs12_25, qg12_26, qs12_26, qg12_27, qs12_27, qg12_28, qs12_28, qg12_29, qg12_30, qs12_30, qg12_31, qg12_32, qg12_33, qg12_34, qg12_35, qg12_36, qs12_36, qg12_37, qs12_37, qg12_38, qs12_38, qg12_39, qs12_39, qg12_40, qs12_40, qg12_41, qg12_42, qs12_42, qg12_43, qs12_43, qg12_44, qs12_44, qg12_45, qs12_45, qg12_46, qs12_46, qg12_47, qa12_1, qe12_1, ql12_1, qa12_4, qe12_4, ql12_4, qa12_5, qe12_5, ql12_5, qa12_6, qe12_6, ql12_6, qa12_9, qe12_9, ql12_9, qa12_10, qe12_10, ql12_10, qa12_11, qe12_11, ql12_11, qa12_12, qe12_12, ql12_12, qa12_14, qe12_14, ql12_14, qa12_15, qe12_15, ql12_15, qa12_16, qe12_16, ql12_16, qa12_17, qe12_17, ql12_17, qa12_19, qe12_19, ql12_19, qa12_20, qe12_20, ql12_20, qa12_21, qe12_21, ql12_21, qa12_22, qe12_22, ql12_22, qa12_29, qe12_29, ql12_29, qa12_31, qe12_31, ql12_31, qa12_32, qe12_32, ql12_32, qa12_33, qe12_33, ql12_33, qa12_34, qe12_34, ql12_34, qa12_35, qe12_35, ql12_35, qa12_41, qe12_41, ql12_41, qa12_47, qe12_47, ql12_47, oi_si, oi_sl, oi_sa, oi_sm, oi_sv, oi_sq, ol_si, ol_sl, ol_sa, ol_sm, ol_sv, ol_sq, oa_si, oa_sl, oa_sa, oa_sm, oa_sv, oa_sq, om_si, om_sl, om_sa, om_sm, om_sv, om_sq, ov_si, ov_sl, ov_sa, ov_sm, ov_sv, ov_sq, oq_si, oq_sl, oq_sa, oq_sm, oq_sv, oq_sq, Nat.reduceEqDiff, ↓reduceIte, n_add, n_addl, n_ladd, n_add1, n_mul, n_lmul, n_mull, n_sub, n_subl, n_subm, n_lt, n_le, n_eq, n_ltl, n_llt, n_lel, n_lle, n_eql, n_leq, n_m1, n_m1l, n_lt0, n_ge0, i_okc, i_okl, if_true, if_false, not_true, not_false, Nat.not_lt_zero, Nat.zero_le, h0]
    refine ⟨M, ?_, Keep.rf⟩
    have hd : some st.length = some 1 := hd
    match st, hd, hp with
    | [x], _, hp =>
      show some (oa M 16 0, _) = some (x, _)
      rw [show oa M 16 0 = x from hp.1]
  | cons c cs ih =>
    intro i st M n hc h0 hl hd hp hf hn hs
    obtain ⟨n, rfl⟩ : ∃ m, n = m + 1 := ⟨n - 1, by simp at hn; omega⟩
    rw [gi_1]
    generalize hz : gi _ n = zk
    dsimp only
    rw [List.length_cons] at h0 hl hn
    have hc0 := hc 0 c rfl
    rw [Nat.add_zero] at hc0
    obtain ⟨d', hd1, hd2⟩ : ∃ d', depS st.length c = some d' ∧ depL d' cs = some 1 := by
      unfold depL at hd
      cases h1 : depS st.length c with
      | none => rw [h1] at hd; cases hd
      | some d' => rw [h1] at hd; exact ⟨d', rfl, hd⟩
    have hs1 := dep_spec hd1
    have hc1 : ∀ M', Keep [16] M M' → ∀ j x, cs[j]? = some x → oa M' 11 (i + 1 + j) = Int32.ofNat x.1 ∧ oa M' 12 (i + 1 + j) = cArg x := by
      intro M' hk j x hx
      rw [hk.a (by decide), hk.a (by decide)]
      have := hc (j + 1) x hx
      rw [show i + (j + 1) = i + 1 + j by omega] at this
      exact this
    have h01 : ∀ M', Keep [16] M M' → oa M' 11 (i + 1 + cs.length) = 0 := by
      intro M' hk
      rw [hk.a (by decide), show i + 1 + cs.length = i + (cs.length + 1) by omega]
      exact h0
    have hf1 : ∀ M', Keep [16] M M' → ∀ k, k < 8 → oa M' 15 k = fs k := fun M' hk k h1 => by rw [hk.a (by decide)]; exact hf k h1
    have hb : c.1 < 2147483648 := by omega
    unfold f_X12_worthAt_4
    rcases hs1 with ⟨h1, h2, h3⟩ | ⟨h1, h2, h3⟩ | ⟨h1, h2, h3, h4⟩
    · subst h3
      have hc2 : cArg c = Int32.ofNat c.2 := rfl
      unfold f_X12_worthAt_33 f_X12_worthAt_64 f_X12_worthAt_134
      rcases h1 with ⟨h1, h5⟩ | ⟨h1, h5⟩
      · rw [h1] at hc0
        simp (disch := first | (with_reducible assumption) | (simp only [oi_si, oi_sl, oi_sa, oi_sm, oi_sv, oi_sq, ol_si, ol_sl, ol_sa, ol_sm, ol_sv, ol_sq, oa_si, oa_sl, oa_sa, oa_sm, oa_sv, oa_sq, om_si, om_sl, om_sa, om_sm, om_sv, om_sq, ov_si, ov_sl, ov_sa, ov_sm, ov_sv, ov_sq, oq_si, oq_sl, oq_sa, oq_sm, oq_sv, oq_sq, Nat.reduceEqDiff, ↓reduceIte]; done) | omega | (exact ixn (by omega) (by omega)) | (exact ixl (by decide) (by decide)) | (simp only [pt_len, pl, z0, z1, z2, z3, z4, z5, z6, z7, z8, z9, z10, z11, z12]; omega)) only [↓gb_m, ↓gc_m, ↓gl_s, ↓gg_m, gb_s, gc_s, gg_t, gqm_0, gqm_1, pt_pt, sa_sa, sm_sm, si_si, qk12, qg12_0, qs12_0, qg12_1, qg12_2, qs12_2, qg12_3, qs12_3, qg12_4, qg12_5, qg12_6, qg12_7, qs12_7, qg12_8, qs12_8, qg12_9, qg12_10, qg12_11, qg12_12, qg12_13, qs12_13, qg12_14, qg12_15, qg12_16, qg12_17, qg12_18, qs12_18, qg12_19, qg12_20, qg12_21, qg12_22, qg12_23, qs12_23, qg12_24, qs12_24, qg12_25, qs12_25, qg12_26, qs12_26, qg12_27, qs12_27, qg12_28, qs12_28, qg12_29, qg12_30, qs12_30, qg12_31, qg12_32, qg12_33, qg12_34, qg12_35, qg12_36, qs12_36, qg12_37, qs12_37, qg12_38, qs12_38, qg12_39, qs12_39, qg12_40, qs12_40, qg12_41, qg12_42, qs12_42, qg12_43, qs12_43, qg12_44, qs12_44, qg12_45, qs12_45, qg12_46, qs12_46, qg12_47, qa12_1, qe12_1, ql12_1, qa12_4, qe12_4, ql12_4, qa12_5, qe12_5, ql12_5, qa12_6, qe12_6, ql12_6, qa12_9, qe12_9, ql12_9, qa12_10, qe12_10, ql12_10, qa12_11, qe12_11, ql12_11, qa12_12, qe12_12, ql12_12, qa12_14, qe12_14, ql12_14, qa12_15, qe12_15, ql12_15, qa12_16, qe12_16, ql12_16, qa12_17, qe12_17, ql12_17, qa12_19, qe12_19, ql12_19, qa12_20, qe12_20, ql12_20, qa12_21, qe12_21, ql12_21, qa12_22, qe12_22, ql12_22, qa12_29, qe12_29, ql12_29, qa12_31, qe12_31, ql12_31, qa12_32, qe12_32, ql12_32, qa12_33, qe12_33, ql12_33, qa12_34, qe12_34, ql12_34, qa12_35, qe12_35, ql12_35, qa12_41, qe12_41, ql12_41, qa12_47, qe12_47, ql12_47, oi_si, oi_sl, oi_sa, oi_sm, oi_sv, oi_sq, ol_si, ol_sl, ol_sa, ol_sm, ol_sv, ol_sq, oa_si, oa_sl, oa_sa, oa_sm, oa_sv, oa_sq, om_si, om_sl, om_sa, om_sm, om_sv, om_sq, ov_si, ov_sl, ov_sa, ov_sm, ov_sv, ov_sq, oq_si, oq_sl, oq_sa, oq_sm, oq_sv, oq_sq, Nat.reduceEqDiff, ↓reduceIte, n_add, n_addl, n_ladd, n_add1, n_mul, n_lmul, n_mull, n_sub, n_subl, n_subm, n_lt, n_le, n_eq, n_ltl, n_llt, n_lel, n_lle, n_eql, n_leq, n_m1, n_m1l, n_lt0, n_ge0, i_okc, i_okl, if_true, if_false, not_true, not_false, Nat.not_lt_zero, Nat.zero_le, hc0.1, hc0.2, hc2]
        obtain ⟨M', e1, e2⟩ := ih (i + 1) (Int32.ofNat c.2 :: st) (sa M 16 (upd (oa M 16) st.length (Int32.ofNat c.2))) n (hc1 _ (k_sa (by decide))) (h01 _ (k_sa (by decide))) (by omega) hd2 (by rw [oa_sa, if_pos rfl]; exact ⟨upd_eq rfl, Pil_upd hp (Nat.le_refl _)⟩) (hf1 _ (k_sa (by decide))) (by omega) (by rw [List.length_cons]; omega)
        refine ⟨M', ?_, (k_sa (by decide)).tr e2⟩
        rw [List.length_cons] at e1
        rw [← hz, e1]
        unfold runS stepS
        rw [List.foldl_cons, if_pos h1]
      · rw [h1] at hc0
        have hf0 := hf c.2 h5
        simp (disch := first | (with_reducible assumption) | (simp only [oi_si, oi_sl, oi_sa, oi_sm, oi_sv, oi_sq, ol_si, ol_sl, ol_sa, ol_sm, ol_sv, ol_sq, oa_si, oa_sl, oa_sa, oa_sm, oa_sv, oa_sq, om_si, om_sl, om_sa, om_sm, om_sv, om_sq, ov_si, ov_sl, ov_sa, ov_sm, ov_sv, ov_sq, oq_si, oq_sl, oq_sa, oq_sm, oq_sv, oq_sq, Nat.reduceEqDiff, ↓reduceIte]; done) | omega | (exact ixn (by omega) (by omega)) | (exact ixl (by decide) (by decide)) | (simp only [pt_len, pl, z0, z1, z2, z3, z4, z5, z6, z7, z8, z9, z10, z11, z12]; omega)) only [↓gb_m, ↓gc_m, ↓gl_s, ↓gg_m, gb_s, gc_s, gg_t, gqm_0, gqm_1, pt_pt, sa_sa, sm_sm, si_si, qk12, qg12_0, qs12_0, qg12_1, qg12_2, qs12_2, qg12_3, qs12_3, qg12_4, qg12_5, qg12_6, qg12_7, qs12_7, qg12_8, qs12_8, qg12_9, qg12_10, qg12_11, qg12_12, qg12_13, qs12_13, qg12_14, qg12_15, qg12_16, qg12_17, qg12_18, qs12_18, qg12_19, qg12_20, qg12_21, qg12_22, qg12_23, qs12_23, qg12_24, qs12_24, qg12_25, qs12_25, qg12_26, qs12_26, qg12_27, qs12_27, qg12_28, qs12_28, qg12_29, qg12_30, qs12_30, qg12_31, qg12_32, qg12_33, qg12_34, qg12_35, qg12_36, qs12_36, qg12_37, qs12_37, qg12_38, qs12_38, qg12_39, qs12_39, qg12_40, qs12_40, qg12_41, qg12_42, qs12_42, qg12_43, qs12_43, qg12_44, qs12_44, qg12_45, qs12_45, qg12_46, qs12_46, qg12_47, qa12_1, qe12_1, ql12_1, qa12_4, qe12_4, ql12_4, qa12_5, qe12_5, ql12_5, qa12_6, qe12_6, ql12_6, qa12_9, qe12_9, ql12_9, qa12_10, qe12_10, ql12_10, qa12_11, qe12_11, ql12_11, qa12_12, qe12_12, ql12_12, qa12_14, qe12_14, ql12_14, qa12_15, qe12_15, ql12_15, qa12_16, qe12_16, ql12_16, qa12_17, qe12_17, ql12_17, qa12_19, qe12_19, ql12_19, qa12_20, qe12_20, ql12_20, qa12_21, qe12_21, ql12_21, qa12_22, qe12_22, ql12_22, qa12_29, qe12_29, ql12_29, qa12_31, qe12_31, ql12_31, qa12_32, qe12_32, ql12_32, qa12_33, qe12_33, ql12_33, qa12_34, qe12_34, ql12_34, qa12_35, qe12_35, ql12_35, qa12_41, qe12_41, ql12_41, qa12_47, qe12_47, ql12_47, oi_si, oi_sl, oi_sa, oi_sm, oi_sv, oi_sq, ol_si, ol_sl, ol_sa, ol_sm, ol_sv, ol_sq, oa_si, oa_sl, oa_sa, oa_sm, oa_sv, oa_sq, om_si, om_sl, om_sa, om_sm, om_sv, om_sq, ov_si, ov_sl, ov_sa, ov_sm, ov_sv, ov_sq, oq_si, oq_sl, oq_sa, oq_sm, oq_sv, oq_sq, Nat.reduceEqDiff, ↓reduceIte, n_add, n_addl, n_ladd, n_add1, n_mul, n_lmul, n_mull, n_sub, n_subl, n_subm, n_lt, n_le, n_eq, n_ltl, n_llt, n_lel, n_lle, n_eql, n_leq, n_m1, n_m1l, n_lt0, n_ge0, i_okc, i_okl, if_true, if_false, not_true, not_false, Nat.not_lt_zero, Nat.zero_le, hc0.1, hc0.2, hc2, hf0]
        obtain ⟨M', e1, e2⟩ := ih (i + 1) (fs c.2 :: st) (sa M 16 (upd (oa M 16) st.length (fs c.2))) n (hc1 _ (k_sa (by decide))) (h01 _ (k_sa (by decide))) (by omega) hd2 (by rw [oa_sa, if_pos rfl]; exact ⟨upd_eq rfl, Pil_upd hp (Nat.le_refl _)⟩) (hf1 _ (k_sa (by decide))) (by omega) (by rw [List.length_cons]; omega)
        refine ⟨M', ?_, (k_sa (by decide)).tr e2⟩
        rw [List.length_cons] at e1
        rw [← hz, e1]
        unfold runS stepS
        rw [List.foldl_cons, if_neg (by omega), if_pos h1]
    · subst h3
      match st, hp, hs, h2, hd1, hd2 with
      | x :: st, hp, hs, h2, hd1, hd2 =>
        rw [List.length_cons] at hs hd2 ⊢
        unfold f_X12_worthAt_100 f_X12_worthAt_134
        rw [h1] at hc0
        have hp1 : oa M 16 st.length = x := hp.1
        have e0 : ∀ zk : (Nat × Int32 × Int32 × PH) → Option (Int32 × PH), (if x = 0 then zk (80, Int32.ofNat (st.length + 1), Int32.ofNat (i + 1), pt sX12 80 (sa M 16 (upd (oa M 16) st.length 1)) h) else zk (80, Int32.ofNat (st.length + 1), Int32.ofNat (i + 1), pt sX12 80 (sa M 16 (upd (oa M 16) st.length 0)) h)) = zk (80, Int32.ofNat (st.length + 1), Int32.ofNat (i + 1), pt sX12 80 (sa M 16 (upd (oa M 16) st.length (oneS (x = 0)))) h) := by
          intro zk
          by_cases q : x = 0
          · rw [if_pos q, oneS_t q]
          · rw [if_neg q, oneS_f q]
        simp (disch := first | (with_reducible assumption) | (simp only [oi_si, oi_sl, oi_sa, oi_sm, oi_sv, oi_sq, ol_si, ol_sl, ol_sa, ol_sm, ol_sv, ol_sq, oa_si, oa_sl, oa_sa, oa_sm, oa_sv, oa_sq, om_si, om_sl, om_sa, om_sm, om_sv, om_sq, ov_si, ov_sl, ov_sa, ov_sm, ov_sv, ov_sq, oq_si, oq_sl, oq_sa, oq_sm, oq_sv, oq_sq, Nat.reduceEqDiff, ↓reduceIte]; done) | omega | (exact ixn (by omega) (by omega)) | (exact ixl (by decide) (by decide)) | (simp only [pt_len, pl, z0, z1, z2, z3, z4, z5, z6, z7, z8, z9, z10, z11, z12]; omega)) only [↓gb_m, ↓gc_m, ↓gl_s, ↓gg_m, gb_s, gc_s, gg_t, gqm_0, gqm_1, pt_pt, sa_sa, sm_sm, si_si, qk12, qg12_0, qs12_0, qg12_1, qg12_2, qs12_2, qg12_3, qs12_3, qg12_4, qg12_5, qg12_6, qg12_7, qs12_7, qg12_8, qs12_8, qg12_9, qg12_10, qg12_11, qg12_12, qg12_13, qs12_13, qg12_14, qg12_15, qg12_16, qg12_17, qg12_18, qs12_18, qg12_19, qg12_20, qg12_21, qg12_22, qg12_23, qs12_23, qg12_24, qs12_24, qg12_25, qs12_25, qg12_26, qs12_26, qg12_27, qs12_27, qg12_28, qs12_28, qg12_29, qg12_30, qs12_30, qg12_31, qg12_32, qg12_33, qg12_34, qg12_35, qg12_36, qs12_36, qg12_37, qs12_37, qg12_38, qs12_38, qg12_39, qs12_39, qg12_40, qs12_40, qg12_41, qg12_42, qs12_42, qg12_43, qs12_43, qg12_44, qs12_44, qg12_45, qs12_45, qg12_46, qs12_46, qg12_47, qa12_1, qe12_1, ql12_1, qa12_4, qe12_4, ql12_4, qa12_5, qe12_5, ql12_5, qa12_6, qe12_6, ql12_6, qa12_9, qe12_9, ql12_9, qa12_10, qe12_10, ql12_10, qa12_11, qe12_11, ql12_11, qa12_12, qe12_12, ql12_12, qa12_14, qe12_14, ql12_14, qa12_15, qe12_15, ql12_15, qa12_16, qe12_16, ql12_16, qa12_17, qe12_17, ql12_17, qa12_19, qe12_19, ql12_19, qa12_20, qe12_20, ql12_20, qa12_21, qe12_21, ql12_21, qa12_22, qe12_22, ql12_22, qa12_29, qe12_29, ql12_29, qa12_31, qe12_31, ql12_31, qa12_32, qe12_32, ql12_32, qa12_33, qe12_33, ql12_33, qa12_34, qe12_34, ql12_34, qa12_35, qe12_35, ql12_35, qa12_41, qe12_41, ql12_41, qa12_47, qe12_47, ql12_47, oi_si, oi_sl, oi_sa, oi_sm, oi_sv, oi_sq, ol_si, ol_sl, ol_sa, ol_sm, ol_sv, ol_sq, oa_si, oa_sl, oa_sa, oa_sm, oa_sv, oa_sq, om_si, om_sl, om_sa, om_sm, om_sv, om_sq, ov_si, ov_sl, ov_sa, ov_sm, ov_sv, ov_sq, oq_si, oq_sl, oq_sa, oq_sm, oq_sv, oq_sq, Nat.reduceEqDiff, ↓reduceIte, n_add, n_addl, n_ladd, n_add1, n_mul, n_lmul, n_mull, n_sub, n_subl, n_subm, n_lt, n_le, n_eq, n_ltl, n_llt, n_lel, n_lle, n_eql, n_leq, n_m1, n_m1l, n_lt0, n_ge0, i_okc, i_okl, if_true, if_false, not_true, not_false, Nat.not_lt_zero, Nat.zero_le, hc0.1, hc0.2, Nat.add_sub_cancel, hp1, e0]
        obtain ⟨M', e1, e2⟩ := ih (i + 1) (oneS (x = 0) :: st) (sa M 16 (upd (oa M 16) st.length (oneS (x = 0)))) n (hc1 _ (k_sa (by decide))) (h01 _ (k_sa (by decide))) (by omega) hd2 (by rw [oa_sa, if_pos rfl]; exact ⟨upd_eq rfl, Pil_upd hp.2 (Nat.le_refl _)⟩) (hf1 _ (k_sa (by decide))) (by omega) (by rw [List.length_cons]; omega)
        refine ⟨M', ?_, (k_sa (by decide)).tr e2⟩
        rw [List.length_cons] at e1
        rw [← hz, e1]
        unfold runS stepS
        rw [List.foldl_cons, if_neg (by omega), if_neg (by omega), if_pos h1]
    · subst h4
      match st, hp, hs, h3, hd1, hd2 with
      | b :: a :: st, hp, hs, h3, hd1, hd2 =>
        rw [List.length_cons, List.length_cons] at hs hd2 ⊢
        unfold f_X12_worthAt_134
        have hp1 : oa M 16 (st.length + 1) = b := hp.1
        have hp2 : oa M 16 st.length = a := hp.2.1
        have hb1 : ∀ h : PH, f_X12_both N (Int32.ofNat c.1) a b h = some (bothS c.1 a b, h) := fun h => m_both h1 h2 a b h
        have k1 : (c.1 = 0) = False := propext ⟨fun h => by omega, False.elim⟩
        have k2 : (c.1 = 1) = False := propext ⟨fun h => by omega, False.elim⟩
        have k3 : (c.1 = 2) = False := propext ⟨fun h => by omega, False.elim⟩
        have k4 : (c.1 = 3) = False := propext ⟨fun h => by omega, False.elim⟩
        simp (disch := first | (with_reducible assumption) | (simp only [oi_si, oi_sl, oi_sa, oi_sm, oi_sv, oi_sq, ol_si, ol_sl, ol_sa, ol_sm, ol_sv, ol_sq, oa_si, oa_sl, oa_sa, oa_sm, oa_sv, oa_sq, om_si, om_sl, om_sa, om_sm, om_sv, om_sq, ov_si, ov_sl, ov_sa, ov_sm, ov_sv, ov_sq, oq_si, oq_sl, oq_sa, oq_sm, oq_sv, oq_sq, Nat.reduceEqDiff, ↓reduceIte]; done) | omega | (exact ixn (by omega) (by omega)) | (exact ixl (by decide) (by decide)) | (simp only [pt_len, pl, z0, z1, z2, z3, z4, z5, z6, z7, z8, z9, z10, z11, z12]; omega)) only [↓gb_m, ↓gc_m, ↓gl_s, ↓gg_m, gb_s, gc_s, gg_t, gqm_0, gqm_1, pt_pt, sa_sa, sm_sm, si_si, qk12, qg12_0, qs12_0, qg12_1, qg12_2, qs12_2, qg12_3, qs12_3, qg12_4, qg12_5, qg12_6, qg12_7, qs12_7, qg12_8, qs12_8, qg12_9, qg12_10, qg12_11, qg12_12, qg12_13, qs12_13, qg12_14, qg12_15, qg12_16, qg12_17, qg12_18, qs12_18, qg12_19, qg12_20, qg12_21, qg12_22, qg12_23, qs12_23, qg12_24, qs12_24, qg12_25, qs12_25, qg12_26, qs12_26, qg12_27, qs12_27, qg12_28, qs12_28, qg12_29, qg12_30, qs12_30, qg12_31, qg12_32, qg12_33, qg12_34, qg12_35, qg12_36, qs12_36, qg12_37, qs12_37, qg12_38, qs12_38, qg12_39, qs12_39, qg12_40, qs12_40, qg12_41, qg12_42, qs12_42, qg12_43, qs12_43, qg12_44, qs12_44, qg12_45, qs12_45, qg12_46, qs12_46, qg12_47, qa12_1, qe12_1, ql12_1, qa12_4, qe12_4, ql12_4, qa12_5, qe12_5, ql12_5, qa12_6, qe12_6, ql12_6, qa12_9, qe12_9, ql12_9, qa12_10, qe12_10, ql12_10, qa12_11, qe12_11, ql12_11, qa12_12, qe12_12, ql12_12, qa12_14, qe12_14, ql12_14, qa12_15, qe12_15, ql12_15, qa12_16, qe12_16, ql12_16, qa12_17, qe12_17, ql12_17, qa12_19, qe12_19, ql12_19, qa12_20, qe12_20, ql12_20, qa12_21, qe12_21, ql12_21, qa12_22, qe12_22, ql12_22, qa12_29, qe12_29, ql12_29, qa12_31, qe12_31, ql12_31, qa12_32, qe12_32, ql12_32, qa12_33, qe12_33, ql12_33, qa12_34, qe12_34, ql12_34, qa12_35, qe12_35, ql12_35, qa12_41, qe12_41, ql12_41, qa12_47, qe12_47, ql12_47, oi_si, oi_sl, oi_sa, oi_sm, oi_sv, oi_sq, ol_si, ol_sl, ol_sa, ol_sm, ol_sv, ol_sq, oa_si, oa_sl, oa_sa, oa_sm, oa_sv, oa_sq, om_si, om_sl, om_sa, om_sm, om_sv, om_sq, ov_si, ov_sl, ov_sa, ov_sm, ov_sv, ov_sq, oq_si, oq_sl, oq_sa, oq_sm, oq_sv, oq_sq, Nat.reduceEqDiff, ↓reduceIte, n_add, n_addl, n_ladd, n_add1, n_mul, n_lmul, n_mull, n_sub, n_subl, n_subm, n_lt, n_le, n_eq, n_ltl, n_llt, n_lel, n_lle, n_eql, n_leq, n_m1, n_m1l, n_lt0, n_ge0, i_okc, i_okl, if_true, if_false, not_true, not_false, Nat.not_lt_zero, Nat.zero_le, hc0.1, hc0.2, Nat.add_sub_cancel, hp1, hp2, hb1, k1, k2, k3, k4]
        obtain ⟨M', e1, e2⟩ := ih (i + 1) (bothS c.1 a b :: st) (sa M 16 (upd (oa M 16) st.length (bothS c.1 a b))) n (hc1 _ (k_sa (by decide))) (h01 _ (k_sa (by decide))) (by omega) hd2 (by rw [oa_sa, if_pos rfl]; exact ⟨upd_eq rfl, Pil_upd hp.2.2 (Nat.le_refl _)⟩) (hf1 _ (k_sa (by decide))) (by omega) (by rw [List.length_cons]; omega)
        refine ⟨M', ?_, (k_sa (by decide)).tr e2⟩
        rw [List.length_cons] at e1
        rw [← hz, e1]
        unfold runS stepS
        rw [List.foldl_cons, if_neg (by omega), if_neg (by omega), if_neg (by omega)]

