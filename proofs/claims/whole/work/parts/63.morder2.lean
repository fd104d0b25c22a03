/-! The model: order, answered -/
theorem tryG_ok {ok : Nat → Bool} {G L : Nat} {lt : List Nat → List Nat → Bool} : ∀ n row b, row.length + n = L → row.Nodup → (∀ g, g ∈ row → ok g = true ∧ g < G) → (∀ r, b = some r → r.length = L ∧ r.Nodup ∧ ∀ g, g ∈ r → ok g = true ∧ g < G) → ∀ r, tryG ok G lt n row b = some r → r.length = L ∧ r.Nodup ∧ ∀ g, g ∈ r → ok g = true ∧ g < G := by
  intro n
  induction n with
  | zero =>
    intro row b h1 h2 h3 h4 r hr
    unfold tryG at hr
    cases b with
    | none =>
      cases hr
      exact ⟨by omega, h2, h3⟩
    | some s =>
      have hr : (if lt row s = true then some row else some s) = some r := hr
      split at hr
      · cases hr
        exact ⟨by omega, h2, h3⟩
      · cases hr
        exact h4 _ rfl
  | succ n ih =>
    intro row b h1 h2 h3 h4
    unfold tryG
    refine fold_inv (P := fun b => ∀ r, b = some r → r.length = L ∧ r.Nodup ∧ ∀ g, g ∈ r → ok g = true ∧ g < G) _ b h4 (fun b a ha hb => ?_)
    split
    · rename_i q
      simp only [Bool.and_eq_true, Bool.not_eq_true'] at q
      refine ih _ _ (by rw [List.length_append]; show row.length + 1 + n = _; omega) ?_ ?_ hb
      · rw [List.nodup_append]
        refine ⟨h2, List.nodup_cons.mpr ⟨List.not_mem_nil, List.nodup_nil⟩, ?_⟩
        intro x hx y hy
        rw [List.mem_singleton.mp hy]
        intro z
        subst z
        rw [List.contains_iff_mem.mpr hx] at q
        cases q.2
      · intro x hx
        rcases List.mem_append.mp hx with z | z
        · exact h3 x z
        · rw [List.mem_singleton.mp z]
          exact ⟨q.1, List.mem_range.mp ha⟩
    · exact hb
section MOrder2
variable {N : Nat} {h : PH} {A : AA}
theorem ordBest_s (hA' : AOk A) (q : Nat) : tryG (fun g => (sB (aS A)).contains g) (iG (aI A)) (ordLt A q) (sB (aS A)).length [] none = some (ordBest A q) ∧ (ordBest A q).length = (sB (aS A)).length ∧ (ordBest A q).Nodup ∧ ∀ g, g ∈ ordBest A q → g ∈ sB (aS A) := by
  have hs := hA'.2.1.2.2.2.2.2.2.2.2.2
  obtain ⟨r, hr⟩ := tryG_ex (ok := fun g => (sB (aS A)).contains g) (G := iG (aI A)) (lt := ordLt A q) (sB (aS A)).length [] none (sB (aS A)) rfl hs.1 (fun g hg => ⟨List.contains_iff_mem.mpr hg, (hs.2 g hg).1⟩)
  have e : ordBest A q = r := by unfold ordBest; rw [hr]; rfl
  rw [e]
  obtain ⟨a, b, c⟩ := tryG_ok (L := (sB (aS A)).length) (sB (aS A)).length [] none (by simp) List.nodup_nil (fun g h => by cases h) (fun r h => by cases h) r hr
  exact ⟨hr, a, b, fun g hg => List.contains_iff_mem.mp (c g hg).1⟩
theorem m_order68 (hF : 80 + 25 ≤ h.length) (hN : 2000 ≤ N) {M : OD} (hA' : AOk A) (hM' : RepMod A M) {q v : Nat} (hq : q < iG (aI A)) (hv : v < 2 + (sB (aS A)).length) (hcap : nInS (sE (aS A)) + (sB (aS A)).length ≤ iR (aI A)) : ∃ M', f_X12_order_68 N 80 (Int32.ofNat q) (Int32.ofNat v) (pt sX12 80 M h) = some (if v = 0 then Int32.ofNat (ordM A q (ordBest A q)) else if v = 1 then Int32.ofNat (ordP A (ordBest A q)) else Int32.ofNat ((ordBest A q).getD (v - 2) 0), pt sX12 80 M' h) ∧ RepMod A M' := by
  have bl := hA'.2.1.len.2.2.2
  have b0 := hA'.1.2.1
  obtain ⟨o1, o2, o3, o4⟩ := ordBest_s hA' q
  have kk : Keep [38, 42] M (si (si M 38 (Int32.ofNat q)) 42 (-1)) := by (repeat (first | exact Keep.rf | assumption | refine k_si2 ?_ (by decide) | refine k_sa2 ?_ (by decide) | refine k_sm2 ?_ (by decide) | refine k_sl2 ?_ (by decide) | refine k_sv2 ?_ (by decide)))
  obtain ⟨M', e1, e2, e3, e4, e5, e6⟩ := m_triesO (N := N) hF hN hA' hq hcap (sB (aS A)).length 16 [] none (si (si M 38 (Int32.ofNat q)) 42 (-1)) (by simp) (by omega) ⟨List.nodup_nil, fun g h => by cases h⟩ (fun r h => by cases h) (hM'.kp kk (by decide)) (by simp only [oi_si, oi_sl, oi_sa, oi_sm, oi_sv, oi_sq, ol_si, ol_sl, ol_sa, ol_sm, ol_sv, ol_sq, oa_si, oa_sl, oa_sa, oa_sm, oa_sv, oa_sq, om_si, om_sl, om_sa, om_sm, om_sv, om_sq, ov_si, ov_sl, ov_sa, ov_sm, ov_sv, ov_sq, oq_si, oq_sl, oq_sa, oq_sm, oq_sv, oq_sq, Nat.reduceEqDiff, ↓reduceIte]) (fun i x hx => by cases hx) (by show oi _ 42 = -1; simp only [oi_si, oi_sl, oi_sa, oi_sm, oi_sv, oi_sq, ol_si, ol_sl, ol_sa, ol_sm, ol_sv, ol_sq, oa_si, oa_sl, oa_sa, oa_sm, oa_sv, oa_sq, om_si, om_sl, om_sa, om_sm, om_sv, om_sq, ov_si, ov_sl, ov_sa, ov_sm, ov_sv, ov_sq, oq_si, oq_sl, oq_sa, oq_sm, oq_sv, oq_sq, Nat.reduceEqDiff, ↓reduceIte])
  rw [o1] at e5
  obtain ⟨x1, x2, x3⟩ := e5
  have e1 : f_X12_triesBooked N 80 0 0 (pt sX12 80 (si (si M 38 (Int32.ofNat q)) 42 (-1)) h) = some (pt sX12 80 M' h) := by
    rw [← e1]
    have : msk (fun k => ([] : List Nat).contains k) 10 = 0 := by
      rw [← msk_0 10]
      exact msk_ext (fun k _ => by simp)
    rw [this]
    rfl
  refine ⟨M', ?_, e3⟩
  unfold f_X12_order_68 f_X12_order_115
  by_cases v0 : v = 0
  · subst v0
    simp (disch := first | (with_reducible assumption) | (simp only [oi_si, oi_sl, oi_sa, oi_sm, oi_sv, oi_sq, ol_si, ol_sl, ol_sa, ol_sm, ol_sv, ol_sq, oa_si, oa_sl, oa_sa, oa_sm, oa_sv, oa_sq, om_si, om_sl, om_sa, om_sm, om_sv, om_sq, ov_si, ov_sl, ov_sa, ov_sm, ov_sv, ov_sq, oq_si, oq_sl, oq_sa, oq_sm, oq_sv, oq_sq, Nat.reduceEqDiff, ↓reduceIte]; done) | omega | (exact ixn (by omega) (by omega)) | (exact ixl (by decide) (by decide)) | (simp only [pt_len, pl, z0, z1, z2, z3, z4, z5, z6, z7, z8, z9, z10, z11, z12]; omega)) only [↓gb_m, ↓gc_m, ↓gl_s, ↓gg_m, gb_s, gc_s, gg_t, gqm_0, gqm_1, pt_pt, sa_sa, sm_sm, si_si, qk12, qg12_0, qs12_0, qg12_1, qg12_2, qs12_2, qg12_3, qs12_3, qg12_4, qg12_5, qg12_6, qg12_7, qs12_7, qg12_8, qs12_8, qg12_9, qg12_10, qg12_11, qg12_12, qg12_13, qs12_13, qg12_14, qg12_15, qg12_16, qg12_17, qg12_18, qs12_18, qg12_19, qg12_20, qg12_21, qg12_22, qg12_23, qs12_23, qg12_24, qs12_24, qg12_25, qs12_25, qg12_26, qs12_26, qg12_27, qs12_27, qg12_28, qs12_28, qg12_29, qg12_30, qs12_30, qg12_31, qg12_32, qg12_33, qg12_34, qg12_35, qg12_36, qs12_36, qg12_37, qs12_37, qg12_38, qs12_38, qg12_39, qs12_39, qg12_40, qs12_40, qg12_41, qg12_42, qs12_42, qg12_43, qs12_43, qg12_44, qs12_44, qg12_45, qs12_45, qg12_46, qs12_46, qg12_47, qa12_1, qe12_1, ql12_1, qa12_4, qe12_4, ql12_4, qa12_5, qe12_5, ql12_5, qa12_6, qe12_6, ql12_6, qa12_9, qe12_9, ql12_9, qa12_10, qe12_10, ql12_10, qa12_11, qe12_11, ql12_11, qa12_12, qe12_12, ql12_12, qa12_14, qe12_14, ql12_14, qa12_15, qe12_15, ql12_15, qa12_16, qe12_16, ql12_16, qa12_17, qe12_17, ql12_17, qa12_19, qe12_19, ql12_19, qa12_20, qe12_20, ql12_20, qa12_21, qe12_21, ql12_21, qa12_22, qe12_22, ql12_22, qa12_29, qe12_29, ql12_29, qa12_31, qe12_31, ql12_31, qa12_32, qe12_32, ql12_32, qa12_33, qe12_33, ql12_33, qa12_34, qe12_34, ql12_34, qa12_35, qe12_35, ql12_35, qa12_41, qe12_41, ql12_41, qa12_47, qe12_47, ql12_47, oi_si, oi_sl, oi_sa, oi_sm, oi_sv, oi_sq, ol_si, ol_sl, ol_sa, ol_sm, ol_sv, ol_sq, oa_si, oa_sl, oa_sa, oa_sm, oa_sv, oa_sq, om_si, om_sl, om_sa, om_sm, om_sv, om_sq, ov_si, ov_sl, ov_sa, ov_sm, ov_sv, ov_sq, oq_si, oq_sl, oq_sa, oq_sm, oq_sv, oq_sq, Nat.reduceEqDiff, ↓reduceIte, n_add, n_addl, n_ladd, n_add1, n_mul, n_lmul, n_mull, n_sub, n_subl, n_subm, n_lt, n_le, n_eq, n_ltl, n_llt, n_lel, n_lle, n_eql, n_leq, n_m1, n_m1l, n_lt0, n_ge0, i_okc, i_okl, if_true, if_false, not_true, not_false, Nat.not_lt_zero, Nat.zero_le, e1, x1]
  · by_cases v1 : v = 1
    · subst v1
      simp (disch := first | (with_reducible assumption) | (simp only [oi_si, oi_sl, oi_sa, oi_sm, oi_sv, oi_sq, ol_si, ol_sl, ol_sa, ol_sm, ol_sv, ol_sq, oa_si, oa_sl, oa_sa, oa_sm, oa_sv, oa_sq, om_si, om_sl, om_sa, om_sm, om_sv, om_sq, ov_si, ov_sl, ov_sa, ov_sm, ov_sv, ov_sq, oq_si, oq_sl, oq_sa, oq_sm, oq_sv, oq_sq, Nat.reduceEqDiff, ↓reduceIte]; done) | omega | (exact ixn (by omega) (by omega)) | (exact ixl (by decide) (by decide)) | (simp only [pt_len, pl, z0, z1, z2, z3, z4, z5, z6, z7, z8, z9, z10, z11, z12]; omega)) only [↓gb_m, ↓gc_m, ↓gl_s, ↓gg_m, gb_s, gc_s, gg_t, gqm_0, gqm_1, pt_pt, sa_sa, sm_sm, si_si, qk12, qg12_0, qs12_0, qg12_1, qg12_2, qs12_2, qg12_3, qs12_3, qg12_4, qg12_5, qg12_6, qg12_7, qs12_7, qg12_8, qs12_8, qg12_9, qg12_10, qg12_11, qg12_12, qg12_13, qs12_13, qg12_14, qg12_15, qg12_16, qg12_17, qg12_18, qs12_18, qg12_19, qg12_20, qg12_21, qg12_22, qg12_23, qs12_23, qg12_24, qs12_24, qg12_25, qs12_25, qg12_26, qs12_26, qg12_27, qs12_27, qg12_28, qs12_28, qg12_29, qg12_30, qs12_30, qg12_31, qg12_32, qg12_33, qg12_34, qg12_35, qg12_36, qs12_36, qg12_37, qs12_37, qg12_38, qs12_38, qg12_39, qs12_39, qg12_40, qs12_40, qg12_41, qg12_42, qs12_42, qg12_43, qs12_43, qg12_44, qs12_44, qg12_45, qs12_45, qg12_46, qs12_46, qg12_47, qa12_1, qe12_1, ql12_1, qa12_4, qe12_4, ql12_4, qa12_5, qe12_5, ql12_5, qa12_6, qe12_6, ql12_6, qa12_9, qe12_9, ql12_9, qa12_10, qe12_10, ql12_10, qa12_11, qe12_11, ql12_11, qa12_12, qe12_12, ql12_12, qa12_14, qe12_14, ql12_14, qa12_15, qe12_15, ql12_15, qa12_16, qe12_16, ql12_16, qa12_17, qe12_17, ql12_17, qa12_19, qe12_19, ql12_19, qa12_20, qe12_20, ql12_20, qa12_21, qe12_21, ql12_21, qa12_22, qe12_22, ql12_22, qa12_29, qe12_29, ql12_29, qa12_31, qe12_31, ql12_31, qa12_32, qe12_32, ql12_32, qa12_33, qe12_33, ql12_33, qa12_34, qe12_34, ql12_34, qa12_35, qe12_35, ql12_35, qa12_41, qe12_41, ql12_41, qa12_47, qe12_47, ql12_47, oi_si, oi_sl, oi_sa, oi_sm, oi_sv, oi_sq, ol_si, ol_sl, ol_sa, ol_sm, ol_sv, ol_sq, oa_si, oa_sl, oa_sa, oa_sm, oa_sv, oa_sq, om_si, om_sl, om_sa, om_sm, om_sv, om_sq, ov_si, ov_sl, ov_sa, ov_sm, ov_sv, ov_sq, oq_si, oq_sl, oq_sa, oq_sm, oq_sv, oq_sq, Nat.reduceEqDiff, ↓reduceIte, n_add, n_addl, n_ladd, n_add1, n_mul, n_lmul, n_mull, n_sub, n_subl, n_subm, n_lt, n_le, n_eq, n_ltl, n_llt, n_lel, n_lle, n_eql, n_leq, n_m1, n_m1l, n_lt0, n_ge0, i_okc, i_okl, if_true, if_false, not_true, not_false, Nat.not_lt_zero, Nat.zero_le, e1, x2]
    · have hx : (ordBest A q)[v - 2]? = some ((ordBest A q).getD (v - 2) 0) := by
        rw [List.getD_eq_getElem?_getD, List.getElem?_eq_getElem (by omega)]
        rfl
      have r3 := x3 _ _ hx
      simp (disch := first | (with_reducible assumption) | (simp only [oi_si, oi_sl, oi_sa, oi_sm, oi_sv, oi_sq, ol_si, ol_sl, ol_sa, ol_sm, ol_sv, ol_sq, oa_si, oa_sl, oa_sa, oa_sm, oa_sv, oa_sq, om_si, om_sl, om_sa, om_sm, om_sv, om_sq, ov_si, ov_sl, ov_sa, ov_sm, ov_sv, ov_sq, oq_si, oq_sl, oq_sa, oq_sm, oq_sv, oq_sq, Nat.reduceEqDiff, ↓reduceIte]; done) | omega | (exact ixn (by omega) (by omega)) | (exact ixl (by decide) (by decide)) | (simp only [pt_len, pl, z0, z1, z2, z3, z4, z5, z6, z7, z8, z9, z10, z11, z12]; omega)) only [↓gb_m, ↓gc_m, ↓gl_s, ↓gg_m, gb_s, gc_s, gg_t, gqm_0, gqm_1, pt_pt, sa_sa, sm_sm, si_si, qk12, qg12_0, qs12_0, qg12_1, qg12_2, qs12_2, qg12_3, qs12_3, qg12_4, qg12_5, qg12_6, qg12_7, qs12_7, qg12_8, qs12_8, qg12_9, qg12_10, qg12_11, qg12_12, qg12_13, qs12_13, qg12_14, qg12_15, qg12_16, qg12_17, qg12_18, qs12_18, qg12_19, qg12_20, qg12_21, qg12_22, qg12_23, qs12_23, qg12_24, qs12_24, qg12_25, qs12_25, qg12_26, qs12_26, qg12_27, qs12_27, qg12_28, qs12_28, qg12_29, qg12_30, qs12_30, qg12_31, qg12_32, qg12_33, qg12_34, qg12_35, qg12_36, qs12_36, qg12_37, qs12_37, qg12_38, qs12_38, qg12_39, qs12_39, qg12_40, qs12_40, qg12_41, qg12_42, qs12_42, qg12_43, qs12_43, qg12_44, qs12_44, qg12_45, qs12_45, qg12_46, qs12_46, qg12_47, qa12_1, qe12_1, ql12_1, qa12_4, qe12_4, ql12_4, qa12_5, qe12_5, ql12_5, qa12_6, qe12_6, ql12_6, qa12_9, qe12_9, ql12_9, qa12_10, qe12_10, ql12_10, qa12_11, qe12_11, ql12_11, qa12_12, qe12_12, ql12_12, qa12_14, qe12_14, ql12_14, qa12_15, qe12_15, ql12_15, qa12_16, qe12_16, ql12_16, qa12_17, qe12_17, ql12_17, qa12_19, qe12_19, ql12_19, qa12_20, qe12_20, ql12_20, qa12_21, qe12_21, ql12_21, qa12_22, qe12_22, ql12_22, qa12_29, qe12_29, ql12_29, qa12_31, qe12_31, ql12_31, qa12_32, qe12_32, ql12_32, qa12_33, qe12_33, ql12_33, qa12_34, qe12_34, ql12_34, qa12_35, qe12_35, ql12_35, qa12_41, qe12_41, ql12_41, qa12_47, qe12_47, ql12_47, oi_si, oi_sl, oi_sa, oi_sm, oi_sv, oi_sq, ol_si, ol_sl, ol_sa, ol_sm, ol_sv, ol_sq, oa_si, oa_sl, oa_sa, oa_sm, oa_sv, oa_sq, om_si, om_sl, om_sa, om_sm, om_sv, om_sq, ov_si, ov_sl, ov_sa, ov_sm, ov_sv, ov_sq, oq_si, oq_sl, oq_sa, oq_sm, oq_sv, oq_sq, Nat.reduceEqDiff, ↓reduceIte, n_add, n_addl, n_ladd, n_add1, n_mul, n_lmul, n_mull, n_sub, n_subl, n_subm, n_lt, n_le, n_eq, n_ltl, n_llt, n_lel, n_lle, n_eql, n_leq, n_m1, n_m1l, n_lt0, n_ge0, i_okc, i_okl, if_true, if_false, not_true, not_false, Nat.not_lt_zero, Nat.zero_le, e1, v0, v1, r3]
theorem m_order (hN : 2000 ≤ N) (hA' : AOk A) (g w : Int32) : MAns A A (f_X12_order N 80 g w) (ansOrder A g w) := by
  intro M h hF hM'
  have hM1 : RepMod A (si M 0 0) := hM'.kp k0 (by decide)
  have bl := hA'.2.1.len.2.2.2
  have b0 := hA'.1.2.1
  have b1 := hA'.1.1
  have hx : ∀ x, x ∈ sB (aS A) → x < 2147483648 := fun x hx => by
    have := (hA'.2.1.2.2.2.2.2.2.2.2.2.2 x hx).1
    omega
  have bk := fun M (hM : RepMod A M) => m_booked (N := N) hF (seg_iff.mpr (seg_iff.mp hM.2.1))
  have fit := hA_fit hA'
  have nin : nInS (sE (aS A)) ≤ iR (aI A) := by
    have := occN_le (hO (hA A)) (iR (aI A))
    rw [fit.2.2] at this
    exact this
  unfold f_X12_order f_X12_order_66 ansOrder ordOk
  cases q : isN g (iG (aI A)) with
  | false =>
    simp (disch := first | (with_reducible assumption) | (simp only [oi_si, oi_sl, oi_sa, oi_sm, oi_sv, oi_sq, ol_si, ol_sl, ol_sa, ol_sm, ol_sv, ol_sq, oa_si, oa_sl, oa_sa, oa_sm, oa_sv, oa_sq, om_si, om_sl, om_sa, om_sm, om_sv, om_sq, ov_si, ov_sl, ov_sa, ov_sm, ov_sv, ov_sq, oq_si, oq_sl, oq_sa, oq_sm, oq_sv, oq_sq, Nat.reduceEqDiff, ↓reduceIte]; done) | omega | (exact ixn (by omega) (by omega)) | (exact ixl (by decide) (by decide)) | (simp only [pt_len, pl, z0, z1, z2, z3, z4, z5, z6, z7, z8, z9, z10, z11, z12]; omega)) only [↓gb_m, ↓gc_m, ↓gl_s, ↓gg_m, gb_s, gc_s, gg_t, gqm_0, gqm_1, pt_pt, sa_sa, sm_sm, si_si, qk12, qg12_0, qs12_0, qg12_1, qg12_2, qs12_2, qg12_3, qs12_3, qg12_4, qg12_5, qg12_6, qg12_7, qs12_7, qg12_8, qs12_8, qg12_9, qg12_10, qg12_11, qg12_12, qg12_13, qs12_13, qg12_14, qg12_15, qg12_16, qg12_17, qg12_18, qs12_18, qg12_19, qg12_20, qg12_21, qg12_22, qg12_23, qs12_23, qg12_24, qs12_24, qg12_25, qs12_25, qg12_26, qs12_26, qg12_27, qs12_27, qg12_28, qs12_28, qg12_29, qg12_30, qs12_30, qg12_31, qg12_32, qg12_33, qg12_34, qg12_35, qg12_36, qs12_36, qg12_37, qs12_37, qg12_38, qs12_38, qg12_39, qs12_39, qg12_40, qs12_40, qg12_41, qg12_42, qs12_42, qg12_43, qs12_43, qg12_44, qs12_44, qg12_45, qs12_45, qg12_46, qs12_46, qg12_47, qa12_1, qe12_1, ql12_1, qa12_4, qe12_4, ql12_4, qa12_5, qe12_5, ql12_5, qa12_6, qe12_6, ql12_6, qa12_9, qe12_9, ql12_9, qa12_10, qe12_10, ql12_10, qa12_11, qe12_11, ql12_11, qa12_12, qe12_12, ql12_12, qa12_14, qe12_14, ql12_14, qa12_15, qe12_15, ql12_15, qa12_16, qe12_16, ql12_16, qa12_17, qe12_17, ql12_17, qa12_19, qe12_19, ql12_19, qa12_20, qe12_20, ql12_20, qa12_21, qe12_21, ql12_21, qa12_22, qe12_22, ql12_22, qa12_29, qe12_29, ql12_29, qa12_31, qe12_31, ql12_31, qa12_32, qe12_32, ql12_32, qa12_33, qe12_33, ql12_33, qa12_34, qe12_34, ql12_34, qa12_35, qe12_35, ql12_35, qa12_41, qe12_41, ql12_41, qa12_47, qe12_47, ql12_47, oi_si, oi_sl, oi_sa, oi_sm, oi_sv, oi_sq, ol_si, ol_sl, ol_sa, ol_sm, ol_sv, ol_sq, oa_si, oa_sl, oa_sa, oa_sm, oa_sv, oa_sq, om_si, om_sl, om_sa, om_sm, om_sv, om_sq, ov_si, ov_sl, ov_sa, ov_sm, ov_sv, ov_sq, oq_si, oq_sl, oq_sa, oq_sm, oq_sv, oq_sq, Nat.reduceEqDiff, ↓reduceIte, n_add, n_addl, n_ladd, n_add1, n_mul, n_lmul, n_mull, n_sub, n_subl, n_subm, n_lt, n_le, n_eq, n_ltl, n_llt, n_lel, n_lle, n_eql, n_leq, n_m1, n_m1l, n_lt0, n_ge0, i_okc, i_okl, if_true, if_false, not_true, not_false, Nat.not_lt_zero, Nat.zero_le, m_isGuest hF hM1.1.1, q, eB0, Bool.false_and, Bool.false_eq_true]
    exact ⟨_, rfl, hM1⟩
  | true =>
    obtain ⟨x, hxg, rfl⟩ := isN_t (by omega) q
    have wt : ∀ h : PH, f_X12_within N w 0 (Int32.ofNat (1 + (sB (aS A)).length)) h = some (eB (isN w (2 + (sB (aS A)).length)), h) := fun h => by
      rw [m_within (N := N) (n := 1 + (sB (aS A)).length) (by omega) rfl, show 1 + (sB (aS A)).length + 1 = 2 + (sB (aS A)).length by omega]
    cases q2 : isN w (2 + (sB (aS A)).length) with
    | false =>
      simp (disch := first | (with_reducible assumption) | (simp only [oi_si, oi_sl, oi_sa, oi_sm, oi_sv, oi_sq, ol_si, ol_sl, ol_sa, ol_sm, ol_sv, ol_sq, oa_si, oa_sl, oa_sa, oa_sm, oa_sv, oa_sq, om_si, om_sl, om_sa, om_sm, om_sv, om_sq, ov_si, ov_sl, ov_sa, ov_sm, ov_sv, ov_sq, oq_si, oq_sl, oq_sa, oq_sm, oq_sv, oq_sq, Nat.reduceEqDiff, ↓reduceIte]; done) | omega | (exact ixn (by omega) (by omega)) | (exact ixl (by decide) (by decide)) | (simp only [pt_len, pl, z0, z1, z2, z3, z4, z5, z6, z7, z8, z9, z10, z11, z12]; omega)) only [↓gb_m, ↓gc_m, ↓gl_s, ↓gg_m, gb_s, gc_s, gg_t, gqm_0, gqm_1, pt_pt, sa_sa, sm_sm, si_si, qk12, qg12_0, qs12_0, qg12_1, qg12_2, qs12_2, qg12_3, qs12_3, qg12_4, qg12_5, qg12_6, qg12_7, qs12_7, qg12_8, qs12_8, qg12_9, qg12_10, qg12_11, qg12_12, qg12_13, qs12_13, qg12_14, qg12_15, qg12_16, qg12_17, qg12_18, qs12_18, qg12_19, qg12_20, qg12_21, qg12_22, qg12_23, qs12_23, qg12_24, qs12_24, qg12_25, qs12_25, qg12_26, qs12_26, qg12_27, qs12_27, qg12_28, qs12_28, qg12_29, qg12_30, qs12_30, qg12_31, qg12_32, qg12_33, qg12_34, qg12_35, qg12_36, qs12_36, qg12_37, qs12_37, qg12_38, qs12_38, qg12_39, qs12_39, qg12_40, qs12_40, qg12_41, qg12_42, qs12_42, qg12_43, qs12_43, qg12_44, qs12_44, qg12_45, qs12_45, qg12_46, qs12_46, qg12_47, qa12_1, qe12_1, ql12_1, qa12_4, qe12_4, ql12_4, qa12_5, qe12_5, ql12_5, qa12_6, qe12_6, ql12_6, qa12_9, qe12_9, ql12_9, qa12_10, qe12_10, ql12_10, qa12_11, qe12_11, ql12_11, qa12_12, qe12_12, ql12_12, qa12_14, qe12_14, ql12_14, qa12_15, qe12_15, ql12_15, qa12_16, qe12_16, ql12_16, qa12_17, qe12_17, ql12_17, qa12_19, qe12_19, ql12_19, qa12_20, qe12_20, ql12_20, qa12_21, qe12_21, ql12_21, qa12_22, qe12_22, ql12_22, qa12_29, qe12_29, ql12_29, qa12_31, qe12_31, ql12_31, qa12_32, qe12_32, ql12_32, qa12_33, qe12_33, ql12_33, qa12_34, qe12_34, ql12_34, qa12_35, qe12_35, ql12_35, qa12_41, qe12_41, ql12_41, qa12_47, qe12_47, ql12_47, oi_si, oi_sl, oi_sa, oi_sm, oi_sv, oi_sq, ol_si, ol_sl, ol_sa, ol_sm, ol_sv, ol_sq, oa_si, oa_sl, oa_sa, oa_sm, oa_sv, oa_sq, om_si, om_sl, om_sa, om_sm, om_sv, om_sq, ov_si, ov_sl, ov_sa, ov_sm, ov_sv, ov_sq, oq_si, oq_sl, oq_sa, oq_sm, oq_sv, oq_sq, Nat.reduceEqDiff, ↓reduceIte, n_add, n_addl, n_ladd, n_add1, n_mul, n_lmul, n_mull, n_sub, n_subl, n_subm, n_lt, n_le, n_eq, n_ltl, n_llt, n_lel, n_lle, n_eql, n_leq, n_m1, n_m1l, n_lt0, n_ge0, i_okc, i_okl, if_true, if_false, not_true, not_false, Nat.not_lt_zero, Nat.zero_le, m_isGuest hF hM1.1.1, q, eB0, Bool.true_eq_false, bk _ hM1, wt, q2, Bool.and_false, Bool.false_and, Bool.false_eq_true]
      exact ⟨_, rfl, hM1⟩
    | true =>
      obtain ⟨v, hv, rfl⟩ := isN_t (by omega) q2
      by_cases q3 : (sB (aS A)).length = 0
      · have wt0 := wt
        rw [q3] at wt0 q2
        have bk0 := bk _ hM1
        rw [q3] at bk0
        have t0 : decide ((sB (aS A)).length ≠ 0) = false := by rw [q3]; rfl
        rw [t0]
        simp (disch := first | (with_reducible assumption) | (simp only [oi_si, oi_sl, oi_sa, oi_sm, oi_sv, oi_sq, ol_si, ol_sl, ol_sa, ol_sm, ol_sv, ol_sq, oa_si, oa_sl, oa_sa, oa_sm, oa_sv, oa_sq, om_si, om_sl, om_sa, om_sm, om_sv, om_sq, ov_si, ov_sl, ov_sa, ov_sm, ov_sv, ov_sq, oq_si, oq_sl, oq_sa, oq_sm, oq_sv, oq_sq, Nat.reduceEqDiff, ↓reduceIte]; done) | omega | (exact ixn (by omega) (by omega)) | (exact ixl (by decide) (by decide)) | (simp only [pt_len, pl, z0, z1, z2, z3, z4, z5, z6, z7, z8, z9, z10, z11, z12]; omega)) only [↓gb_m, ↓gc_m, ↓gl_s, ↓gg_m, gb_s, gc_s, gg_t, gqm_0, gqm_1, pt_pt, sa_sa, sm_sm, si_si, qk12, qg12_0, qs12_0, qg12_1, qg12_2, qs12_2, qg12_3, qs12_3, qg12_4, qg12_5, qg12_6, qg12_7, qs12_7, qg12_8, qs12_8, qg12_9, qg12_10, qg12_11, qg12_12, qg12_13, qs12_13, qg12_14, qg12_15, qg12_16, qg12_17, qg12_18, qs12_18, qg12_19, qg12_20, qg12_21, qg12_22, qg12_23, qs12_23, qg12_24, qs12_24, qg12_25, qs12_25, qg12_26, qs12_26, qg12_27, qs12_27, qg12_28, qs12_28, qg12_29, qg12_30, qs12_30, qg12_31, qg12_32, qg12_33, qg12_34, qg12_35, qg12_36, qs12_36, qg12_37, qs12_37, qg12_38, qs12_38, qg12_39, qs12_39, qg12_40, qs12_40, qg12_41, qg12_42, qs12_42, qg12_43, qs12_43, qg12_44, qs12_44, qg12_45, qs12_45, qg12_46, qs12_46, qg12_47, qa12_1, qe12_1, ql12_1, qa12_4, qe12_4, ql12_4, qa12_5, qe12_5, ql12_5, qa12_6, qe12_6, ql12_6, qa12_9, qe12_9, ql12_9, qa12_10, qe12_10, ql12_10, qa12_11, qe12_11, ql12_11, qa12_12, qe12_12, ql12_12, qa12_14, qe12_14, ql12_14, qa12_15, qe12_15, ql12_15, qa12_16, qe12_16, ql12_16, qa12_17, qe12_17, ql12_17, qa12_19, qe12_19, ql12_19, qa12_20, qe12_20, ql12_20, qa12_21, qe12_21, ql12_21, qa12_22, qe12_22, ql12_22, qa12_29, qe12_29, ql12_29, qa12_31, qe12_31, ql12_31, qa12_32, qe12_32, ql12_32, qa12_33, qe12_33, ql12_33, qa12_34, qe12_34, ql12_34, qa12_35, qe12_35, ql12_35, qa12_41, qe12_41, ql12_41, qa12_47, qe12_47, ql12_47, oi_si, oi_sl, oi_sa, oi_sm, oi_sv, oi_sq, ol_si, ol_sl, ol_sa, ol_sm, ol_sv, ol_sq, oa_si, oa_sl, oa_sa, oa_sm, oa_sv, oa_sq, om_si, om_sl, om_sa, om_sm, om_sv, om_sq, ov_si, ov_sl, ov_sa, ov_sm, ov_sv, ov_sq, oq_si, oq_sl, oq_sa, oq_sm, oq_sv, oq_sq, Nat.reduceEqDiff, ↓reduceIte, n_add, n_addl, n_ladd, n_add1, n_mul, n_lmul, n_mull, n_sub, n_subl, n_subm, n_lt, n_le, n_eq, n_ltl, n_llt, n_lel, n_lle, n_eql, n_leq, n_m1, n_m1l, n_lt0, n_ge0, i_okc, i_okl, if_true, if_false, not_true, not_false, Nat.not_lt_zero, Nat.zero_le, m_isGuest hF hM1.1.1, q, eB0, Bool.true_eq_false, bk0, wt0, q2, Bool.and_false, Bool.false_and, Bool.false_eq_true]
        exact ⟨_, rfl, hM1⟩
      · obtain ⟨M2, i1, i2, i3⟩ := m_insideMany (N := N) hF hN hA' hM1
        have t0 : decide ((sB (aS A)).length ≠ 0) = true := by simp [q3]
        rw [t0]
        by_cases q4 : nInS (sE (aS A)) + (sB (aS A)).length ≤ iR (aI A)
        · have t1 : decide (nInS (sE (aS A)) + (sB (aS A)).length ≤ iR (aI A)) = true := decide_eq_true q4
          rw [t1]
          have c4 : (iR (aI A) - nInS (sE (aS A)) < (sB (aS A)).length) = False := propext ⟨fun h => by omega, False.elim⟩
          have ib := m_isBooked (N := N) hF hN (seg_iff.mp i2.2.1).2.2.2.2.2 bl hx (g := x) (by omega)
          have cx : (Int32.ofNat x).toNatClampNeg = x := i_okc (by omega)
          have cv : (Int32.ofNat v).toNatClampNeg = v := i_okc (by omega)
          rw [cx, cv]
          cases q5 : (sB (aS A)).contains x with
          | true =>
            rw [q5] at ib
            obtain ⟨M', e1, e2⟩ := m_order68 (N := N) hF hN hA' i2 hxg hv q4
            simp (disch := first | (with_reducible assumption) | (simp only [oi_si, oi_sl, oi_sa, oi_sm, oi_sv, oi_sq, ol_si, ol_sl, ol_sa, ol_sm, ol_sv, ol_sq, oa_si, oa_sl, oa_sa, oa_sm, oa_sv, oa_sq, om_si, om_sl, om_sa, om_sm, om_sv, om_sq, ov_si, ov_sl, ov_sa, ov_sm, ov_sv, ov_sq, oq_si, oq_sl, oq_sa, oq_sm, oq_sv, oq_sq, Nat.reduceEqDiff, ↓reduceIte]; done) | omega | (exact ixn (by omega) (by omega)) | (exact ixl (by decide) (by decide)) | (simp only [pt_len, pl, z0, z1, z2, z3, z4, z5, z6, z7, z8, z9, z10, z11, z12]; omega)) only [qs12_0, gb_s, gc_s, gg_t, qk12, m_isGuest hF hM1.1.1, q, eB0, Bool.true_eq_false, bk _ hM1, wt, q2, m_rooms hF hM1.1.1, i1, n_sub nin, n_add, n_addl, n_ladd, n_add1, n_mul, n_lmul, n_mull, n_sub, n_subl, n_subm, n_lt, n_le, n_eq, n_ltl, n_llt, n_lel, n_lle, n_eql, n_leq, n_m1, n_m1l, n_lt0, n_ge0, i_okc, i_okl, if_true, if_false, not_true, not_false, Nat.not_lt_zero, Nat.zero_le, c4, q3, ib, Bool.and_true, Bool.true_or, if_true]
            exact ⟨M', e1, e2⟩
          | false =>
            rw [q5] at ib
            obtain ⟨M3, r1, r2, r3, r4, r5⟩ := m_roomNow (N := N) hF hN hA' i2 hxg
            have fr := fit_room fit x
            cases q6 : insS (sE (aS A)) x with
            | true =>
              have hs : ∃ a, roomS (aI A) (hA A) x = some a := by
                cases z : roomS (aI A) (hA A) x with
                | none => rw [fr.mp z] at q6; cases q6
                | some a => exact ⟨a, rfl⟩
              obtain ⟨a, ha⟩ := hs
              have hal := (room_s ha).1
              rw [ha, eO_s] at r1
              obtain ⟨M', e1, e2⟩ := m_order68 (N := N) hF hN hA' r2 hxg hv q4
              simp (disch := first | (with_reducible assumption) | (simp only [oi_si, oi_sl, oi_sa, oi_sm, oi_sv, oi_sq, ol_si, ol_sl, ol_sa, ol_sm, ol_sv, ol_sq, oa_si, oa_sl, oa_sa, oa_sm, oa_sv, oa_sq, om_si, om_sl, om_sa, om_sm, om_sv, om_sq, ov_si, ov_sl, ov_sa, ov_sm, ov_sv, ov_sq, oq_si, oq_sl, oq_sa, oq_sm, oq_sv, oq_sq, Nat.reduceEqDiff, ↓reduceIte]; done) | omega | (exact ixn (by omega) (by omega)) | (exact ixl (by decide) (by decide)) | (simp only [pt_len, pl, z0, z1, z2, z3, z4, z5, z6, z7, z8, z9, z10, z11, z12]; omega)) only [qs12_0, gb_s, gc_s, gg_t, qk12, m_isGuest hF hM1.1.1, q, eB0, Bool.true_eq_false, bk _ hM1, wt, q2, m_rooms hF hM1.1.1, i1, n_sub nin, n_add, n_addl, n_ladd, n_add1, n_mul, n_lmul, n_mull, n_sub, n_subl, n_subm, n_lt, n_le, n_eq, n_ltl, n_llt, n_lel, n_lle, n_eql, n_leq, n_m1, n_m1l, n_lt0, n_ge0, i_okc, i_okl, if_true, if_false, not_true, not_false, Nat.not_lt_zero, Nat.zero_le, c4, q3, ib, r1, Bool.and_true, Bool.or_true, if_true]
              exact ⟨M', e1, e2⟩
            | false =>
              rw [fr.mpr q6] at r1
              have m1 : ((0 : Int32) ≤ eO none) = False := propext ⟨fun h => absurd h (by decide), False.elim⟩
              simp (disch := first | (with_reducible assumption) | (simp only [oi_si, oi_sl, oi_sa, oi_sm, oi_sv, oi_sq, ol_si, ol_sl, ol_sa, ol_sm, ol_sv, ol_sq, oa_si, oa_sl, oa_sa, oa_sm, oa_sv, oa_sq, om_si, om_sl, om_sa, om_sm, om_sv, om_sq, ov_si, ov_sl, ov_sa, ov_sm, ov_sv, ov_sq, oq_si, oq_sl, oq_sa, oq_sm, oq_sv, oq_sq, Nat.reduceEqDiff, ↓reduceIte]; done) | omega | (exact ixn (by omega) (by omega)) | (exact ixl (by decide) (by decide)) | (simp only [pt_len, pl, z0, z1, z2, z3, z4, z5, z6, z7, z8, z9, z10, z11, z12]; omega)) only [qs12_0, gb_s, gc_s, gg_t, qk12, m_isGuest hF hM1.1.1, q, eB0, Bool.true_eq_false, bk _ hM1, wt, q2, m_rooms hF hM1.1.1, i1, n_sub nin, n_add, n_addl, n_ladd, n_add1, n_mul, n_lmul, n_mull, n_sub, n_subl, n_subm, n_lt, n_le, n_eq, n_ltl, n_llt, n_lel, n_lle, n_eql, n_leq, n_m1, n_m1l, n_lt0, n_ge0, i_okc, i_okl, if_true, if_false, not_true, not_false, Nat.not_lt_zero, Nat.zero_le, c4, q3, ib, r1, m1, Bool.and_false, Bool.or_false, Bool.false_eq_true]
              exact ⟨M3, rfl, r2⟩
        · have t1 : decide (nInS (sE (aS A)) + (sB (aS A)).length ≤ iR (aI A)) = false := decide_eq_false q4
          rw [t1]
          have c4 : (iR (aI A) - nInS (sE (aS A)) < (sB (aS A)).length) = True := propext ⟨fun h => trivial, fun _ => by omega⟩
          simp (disch := first | (with_reducible assumption) | (simp only [oi_si, oi_sl, oi_sa, oi_sm, oi_sv, oi_sq, ol_si, ol_sl, ol_sa, ol_sm, ol_sv, ol_sq, oa_si, oa_sl, oa_sa, oa_sm, oa_sv, oa_sq, om_si, om_sl, om_sa, om_sm, om_sv, om_sq, ov_si, ov_sl, ov_sa, ov_sm, ov_sv, ov_sq, oq_si, oq_sl, oq_sa, oq_sm, oq_sv, oq_sq, Nat.reduceEqDiff, ↓reduceIte]; done) | omega | (exact ixn (by omega) (by omega)) | (exact ixl (by decide) (by decide)) | (simp only [pt_len, pl, z0, z1, z2, z3, z4, z5, z6, z7, z8, z9, z10, z11, z12]; omega)) only [qs12_0, gb_s, gc_s, gg_t, qk12, m_isGuest hF hM1.1.1, q, eB0, Bool.true_eq_false, bk _ hM1, wt, q2, m_rooms hF hM1.1.1, i1, n_sub nin, n_add, n_addl, n_ladd, n_add1, n_mul, n_lmul, n_mull, n_sub, n_subl, n_subm, n_lt, n_le, n_eq, n_ltl, n_llt, n_lel, n_lle, n_eql, n_leq, n_m1, n_m1l, n_lt0, n_ge0, i_okc, i_okl, if_true, if_false, not_true, not_false, Nat.not_lt_zero, Nat.zero_le, c4, q3, Bool.and_false, Bool.false_and, Bool.false_eq_true, if_false]
          exact ⟨M2, rfl, i2⟩
end MOrder2

