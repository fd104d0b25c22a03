/-! The model: as it begins, what it says -/
section MInit3
variable {N : Nat} {h : PH}
theorem m_init12 : ∃ M, f_X12_init N h.length (h ++ [.inr (12, n0X12)]) = some (h ++ blk sX12 h.length M) ∧ RepMod A0A M := by
  have a0 : At sX12 h.length (sm D00 9 wW) (h ++ blk sX12 h.length (sm D00 9 wW)) := At_blk0
  have d1 : ∀ k, oa (sm D00 9 wW) k = fun _ => 0 := fun _ => rfl
  have d2 : ∀ k, oi (sm D00 9 wW) k = 0 := fun _ => rfl
  have d4 : om (sm D00 9 wW) 9 = wW := by rw [om_sm, if_pos rfl]
  have st := m_ini_st (N := N) (h := h)
  have bp : ∀ D', pt sX12 h.length D' (h ++ blk sX12 h.length (sm D00 9 wW)) = h ++ blk sX12 h.length D' := fun D' => blk_pt0
  generalize sm D00 9 wW = DM at a0 d1 d2 d4 st bp
  refine ⟨si (sa DM 17 (upd (oa DM 17) 0 (-1))) 18 1, ?_, ?_⟩
  · rw [st, ← bp (si (sa DM 17 (upd (oa DM 17) 0 (-1))) 18 1)]
    have hF : h.length + 25 ≤ (h ++ blk sX12 h.length DM).length := a0.1
    generalize h ++ blk sX12 h.length DM = h1 at a0 hF
    generalize h.length = p at a0 hF
    have x1 : gfR 12 17 p h1 = gfR 12 17 p (pt sX12 p DM h1) := by rw [a0.2]
    have x2 : ∀ z, asI 0 z 0 (-1) h1 = asI 0 z 0 (-1) (pt sX12 p DM h1) := fun z => by rw [a0.2]
    have ft : Int32.toNatClampNeg 0 = 0 := by decide
    rw [x1]
    simp only [x2]
    simp (disch := first | (with_reducible assumption) | (simp only [oi_si, oi_sl, oi_sa, oi_sm, oi_sv, oi_sq, ol_si, ol_sl, ol_sa, ol_sm, ol_sv, ol_sq, oa_si, oa_sl, oa_sa, oa_sm, oa_sv, oa_sq, om_si, om_sl, om_sa, om_sm, om_sv, om_sq, ov_si, ov_sl, ov_sa, ov_sm, ov_sv, ov_sq, oq_si, oq_sl, oq_sa, oq_sm, oq_sv, oq_sq, Nat.reduceEqDiff, ↓reduceIte]; done) | omega | (exact ixn (by omega) (by omega)) | (exact ixl (by decide) (by decide)) | (simp only [pt_len, pl, z0, z1, z2, z3, z4, z5, z6, z7, z8, z9, z10, z11, z12]; omega)) only [↓gb_m, ↓gc_m, ↓gl_s, ↓gg_m, gb_s, gc_s, gg_t, gqm_0, gqm_1, pt_pt, sa_sa, sm_sm, si_si, qk12, qg12_0, qs12_0, qg12_1, qg12_2, qs12_2, qg12_3, qs12_3, qg12_4, qg12_5, qg12_6, qg12_7, qs12_7, qg12_8, qs12_8, qg12_9, qg12_10, qg12_11, qg12_12, qg12_13, qs12_13, qg12_14, qg12_15, qg12_16, qg12_17, qg12_18, qs12_18, qg12_19, qg12_20, qg12_21, qg12_22, qg12_23, qs12_23, qg12_24, qs12_24, qg12_25, qs12_25, qg12_26, qs12_26, qg12_27, qs12_27, qg12_28, qs12_28, qg12_29, qg12_30, qs12_30, qg12_31, qg12_32, qg12_33, qg12_34, qg12_35, qg12_36, qs12_36, qg12_37, qs12_37, qg12_38, qs12_38, qg12_39, qs12_39, qg12_40, qs12_40, qg12_41, qg12_42, qs12_42, qg12_43, qs12_43, qg12_44, qs12_44, qg12_45, qs12_45, qg12_46, qs12_46, qg12_47, qa12_1, qe12_1, ql12_1, qa12_4, qe12_4, ql12_4, qa12_5, qe12_5, ql12_5, qa12_6, qe12_6, ql12_6, qa12_9, qe12_9, ql12_9, qa12_10, qe12_10, ql12_10, qa12_11, qe12_11, ql12_11, qa12_12, qe12_12, ql12_12, qa12_14, qe12_14, ql12_14, qa12_15, qe12_15, ql12_15, qa12_16, qe12_16, ql12_16, qa12_17, qe12_17, ql12_17, qa12_19, qe12_19, ql12_19, qa12_20, qe12_20, ql12_20, qa12_21, qe12_21, ql12_21, qa12_22, qe12_22, ql12_22, qa12_29, qe12_29, ql12_29, qa12_31, qe12_31, ql12_31, qa12_32, qe12_32, ql12_32, qa12_33, qe12_33, ql12_33, qa12_34, qe12_34, ql12_34, qa12_35, qe12_35, ql12_35, qa12_41, qe12_41, ql12_41, qa12_47, qe12_47, ql12_47, oi_si, oi_sl, oi_sa, oi_sm, oi_sv, oi_sq, ol_si, ol_sl, ol_sa, ol_sm, ol_sv, ol_sq, oa_si, oa_sl, oa_sa, oa_sm, oa_sv, oa_sq, om_si, om_sl, om_sa, om_sm, om_sv, om_sq, ov_si, ov_sl, ov_sa, ov_sm, ov_sv, ov_sq, oq_si, oq_sl, oq_sa, oq_sm, oq_sv, oq_sq, Nat.reduceEqDiff, ↓reduceIte, n_add, n_addl, n_ladd, n_add1, n_mul, n_lmul, n_mull, n_sub, n_subl, n_subm, n_lt, n_le, n_eq, n_ltl, n_llt, n_lel, n_lle, n_eql, n_leq, n_m1, n_m1l, n_lt0, n_ge0, i_okc, i_okl, if_true, if_false, not_true, not_false, Nat.not_lt_zero, Nat.zero_le, gnar_0, ft]
  · have e17 : ∀ j, oa (si (sa DM 17 (upd (oa DM 17) 0 (-1))) 18 1) 17 j = if j = 0 then -1 else 0 := by
      intro j
      rw [oa_si, oa_sa, if_pos rfl, d1]
      by_cases z : j = 0
      · rw [if_pos z, upd_eq z]
      · rw [if_neg z, upd_ne z]
    have ea : ∀ k, k ≠ 17 → oa (si (sa DM 17 (upd (oa DM 17) 0 (-1))) 18 1) k = fun _ => 0 := fun k hk => by
      rw [oa_si, oa_sa, if_neg hk, d1]
    refine ⟨⟨⟨I0_ok, ?_, ?_, ?_, fun r hr => absurd hr (Nat.not_lt_zero _), fun g hg => absurd hg (Nat.not_lt_zero _)⟩, fun k hk => absurd hk (Nat.not_lt_zero _)⟩, ?_, ?_, ?_, ?_, fun k c hk => (by cases hk), ?_⟩
    · rw [ea 10 (by decide)]; rfl
    · rw [ea 10 (by decide)]; rfl
    · rw [ea 10 (by decide)]; rfl
    · unfold RepSM
      simp only [e17]
      refine ⟨rfl, rfl, fun k e he => (by cases he), rfl, fun k e he => (by cases he), fun g hg => ?_, ?_⟩
      · rw [if_neg (by omega)]; rfl
      · first
          | exact ⟨rfl, fun k e he => (by cases he), rfl, fun k e he => (by cases he)⟩
          | (refine ⟨?_, ?_⟩ <;> first | rfl | skip)
    · intro z
      rw [oi_si, if_pos rfl] at z
      exact absurd z (by decide)
    · intro m hm
      rw [ea 47 (by decide)]
      exact ⟨rfl, fun S hS => (by cases hS)⟩
    · rw [oi_si, if_neg (by decide), oi_sa, d2]; rfl
    · rw [om_si, om_sa, d4]
      decide
end MInit3

