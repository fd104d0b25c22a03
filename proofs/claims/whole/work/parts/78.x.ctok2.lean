/-! The component reads: the next token; words -/
theorem v32_s (a : List Nat) (x : Nat) : v32 (a ++ [x]) = 32 * v32 a + (x - 96) := by
  unfold v32
  rw [List.foldl_append]
  rfl
theorem v10_s (a : List Nat) (x : Nat) : v10 (a ++ [x]) = 10 * v10 a + (x - 48) := by
  unfold v10
  rw [List.foldl_append]
  rfl
section CTok2
variable {N : Nat} {h : PH} {p : Nat} {T : List Nat}
/-- what a run of signs of one kind is -/
theorem run_at {q : Nat → Bool} {e j : Nat} (hj : j < ((T.drop e).takeWhile q).length) : ∃ c, T[e + j]? = some c ∧ q c = true ∧ ((T.drop e).takeWhile q).take (j + 1) = ((T.drop e).takeWhile q).take j ++ [c] := by
  obtain ⟨c, c1, c2, c3⟩ := (tw_at (T.drop e)).1 j hj
  rw [List.getElem?_drop] at c1
  refine ⟨c, c1, c3, ?_⟩
  rw [List.take_add_one, c2]
  rfl
theorem run_end {q : Nat → Bool} {e c : Nat} (hc : T[e + ((T.drop e).takeWhile q).length]? = some c) : q c = false := by
  refine (tw_at (T.drop e)).2.1 c ?_
  rw [List.getElem?_drop]
  exact hc
theorem c_adv159 (hF : p + 2 ≤ h.length) (hT : TOk T) {e : Nat} (he : e ≤ T.length) : ∀ n j m D, j + n = ((T.drop e).takeWhile isD).length → n < m → RepTa T D → oi D 3 = Int32.ofNat e → oi D 6 = Int32.ofNat (e + j) → oi D 4 = Int32.ofNat (v10 (((T.drop e).takeWhile isD).take j)) → ∃ D', gi (fun zk zs => f_X10_advance_159 N zk zs.1 zs.2) m (p, pt sX10 p D h) = f_X10_advance_222 N p (pt sX10 p D' h) ∧ RepTa T D' ∧ oi D' 3 = Int32.ofNat e ∧ oi D' 6 = Int32.ofNat (e + ((T.drop e).takeWhile isD).length) ∧ oi D' 4 = Int32.ofNat (v10 ((T.drop e).takeWhile isD)) := by
  have tl := hT.1
  have rl := tw_len isD (T.drop e)
  rw [List.length_drop] at rl
  intro n
  induction n with
  | zero =>
    intro j m D hj hm hR h3 h6 h4
    have : j = ((T.drop e).takeWhile isD).length := by omega
    subst this
    rw [List.take_length] at h4
    refine ⟨D, ?_, hR, h3, h6, h4⟩
    obtain ⟨m, rfl⟩ : ∃ k, m = k + 1 := ⟨m - 1, by omega⟩
    rw [gi_1]
    generalize hz : gi _ m = zk
    dsimp only
    unfold f_X10_advance_159
    rcases Nat.lt_or_ge (e + ((T.drop e).takeWhile isD).length) T.length with q | q
    · obtain ⟨c, hc⟩ : ∃ c, T[e + ((T.drop e).takeWhile isD).length]? = some c := ⟨_, List.getElem?_eq_getElem q⟩
      have cf := run_end hc
      have c127 := hT.lt hc
      have ra := hR.2 _ c hc
      have n2 : (Int32.ofNat T.length ≤ Int32.ofNat (e + ((T.drop e).takeWhile isD).length)) = False := nleF (by omega) (by omega) (by omega)
      have di := fun h => c_isDigit (N := N) (h := h) (c := c) (by omega)
      rw [cf] at di
      have e0 : eB false = 0 := rfl
      simp (disch := first | (with_reducible assumption) | (simp only [oi_si, oi_sl, oi_sa, oi_sm, oi_sv, oi_sq, ol_si, ol_sl, ol_sa, ol_sm, ol_sv, ol_sq, oa_si, oa_sl, oa_sa, oa_sm, oa_sv, oa_sq, om_si, om_sl, om_sa, om_sm, om_sv, om_sq, ov_si, ov_sl, ov_sa, ov_sm, ov_sv, ov_sq, oq_si, oq_sl, oq_sa, oq_sm, oq_sv, oq_sq, Nat.reduceEqDiff, ↓reduceIte]; done) | omega | (exact ixn (by omega) (by omega)) | (exact ixl (by decide) (by decide)) | (simp only [pt_len, pl, z0, z1, z2, z3, z4, z5, z6, z7, z8, z9, z10, z11, z12]; omega)) only [↓gb_m, ↓gc_m, ↓gl_s, ↓gg_m, gb_s, gc_s, gg_t, gqm_0, gqm_1, pt_pt, sa_sa, sm_sm, si_si, qk10, qg10_0, qg10_1, qs10_1, qg10_2, qs10_2, qg10_3, qs10_3, qg10_4, qs10_4, qg10_5, qs10_5, qg10_6, qs10_6, qa10_0, qe10_0, ql10_0, oi_si, oi_sl, oi_sa, oi_sm, oi_sv, oi_sq, ol_si, ol_sl, ol_sa, ol_sm, ol_sv, ol_sq, oa_si, oa_sl, oa_sa, oa_sm, oa_sv, oa_sq, om_si, om_sl, om_sa, om_sm, om_sv, om_sq, ov_si, ov_sl, ov_sa, ov_sm, ov_sv, ov_sq, oq_si, oq_sl, oq_sa, oq_sm, oq_sv, oq_sq, Nat.reduceEqDiff, ↓reduceIte, n_add, n_addl, n_ladd, n_add1, n_mul, n_lmul, n_mull, n_sub, n_subl, n_subm, n_lt, n_le, n_eq, n_ltl, n_llt, n_lel, n_lle, n_eql, n_leq, n_m1, n_m1l, n_lt0, n_ge0, i_okc, i_okl, if_true, if_false, not_true, not_false, Nat.not_lt_zero, Nat.zero_le, h6, hR.1, n2, ra, di, e0]
    · have n2 : (Int32.ofNat T.length ≤ Int32.ofNat (e + ((T.drop e).takeWhile isD).length)) = True := nleT (by omega) (by omega) (by omega)
      simp (disch := first | (with_reducible assumption) | (simp only [oi_si, oi_sl, oi_sa, oi_sm, oi_sv, oi_sq, ol_si, ol_sl, ol_sa, ol_sm, ol_sv, ol_sq, oa_si, oa_sl, oa_sa, oa_sm, oa_sv, oa_sq, om_si, om_sl, om_sa, om_sm, om_sv, om_sq, ov_si, ov_sl, ov_sa, ov_sm, ov_sv, ov_sq, oq_si, oq_sl, oq_sa, oq_sm, oq_sv, oq_sq, Nat.reduceEqDiff, ↓reduceIte]; done) | omega | (exact ixn (by omega) (by omega)) | (exact ixl (by decide) (by decide)) | (simp only [pt_len, pl, z0, z1, z2, z3, z4, z5, z6, z7, z8, z9, z10, z11, z12]; omega)) only [↓gb_m, ↓gc_m, ↓gl_s, ↓gg_m, gb_s, gc_s, gg_t, gqm_0, gqm_1, pt_pt, sa_sa, sm_sm, si_si, qk10, qg10_0, qg10_1, qs10_1, qg10_2, qs10_2, qg10_3, qs10_3, qg10_4, qs10_4, qg10_5, qs10_5, qg10_6, qs10_6, qa10_0, qe10_0, ql10_0, oi_si, oi_sl, oi_sa, oi_sm, oi_sv, oi_sq, ol_si, ol_sl, ol_sa, ol_sm, ol_sv, ol_sq, oa_si, oa_sl, oa_sa, oa_sm, oa_sv, oa_sq, om_si, om_sl, om_sa, om_sm, om_sv, om_sq, ov_si, ov_sl, ov_sa, ov_sm, ov_sv, ov_sq, oq_si, oq_sl, oq_sa, oq_sm, oq_sv, oq_sq, Nat.reduceEqDiff, ↓reduceIte, n_add, n_addl, n_ladd, n_add1, n_mul, n_lmul, n_mull, n_sub, n_subl, n_subm, n_lt, n_le, n_eq, n_ltl, n_llt, n_lel, n_lle, n_eql, n_leq, n_m1, n_m1l, n_lt0, n_ge0, i_okc, i_okl, if_true, if_false, not_true, not_false, Nat.not_lt_zero, Nat.zero_le, h6, hR.1, n2]
  | succ n ih =>
    intro j m D hj hm hR h3 h6 h4
    obtain ⟨c, c1, c2, c3⟩ := run_at (T := T) (q := isD) (e := e) (j := j) (by omega)
    have c127 := hT.lt c1
    have ra := hR.2 _ c c1
    have cl : 48 ≤ c := by
      unfold isD at c2
      simp at c2
      omega
    obtain ⟨D', a1, a2⟩ := ih (j + 1) (m - 1) (si (si D 4 (Int32.ofNat (v10 (((T.drop e).takeWhile isD).take j) * 10 + (c - 48)))) 6 (Int32.ofNat (e + j + 1))) (by omega) (by omega) hR h3 (by rw [oi_si, if_pos rfl]; rfl) (by
      rw [oi_si, if_neg (by decide), oi_si, if_pos rfl, c3, v10_s]
      congr 1
      omega)
    refine ⟨D', ?_, a2⟩
    obtain ⟨m, rfl⟩ : ∃ k, m = k + 1 := ⟨m - 1, by omega⟩
    rw [gi_1]
    generalize hz : gi _ m = zk
    dsimp only
    rw [show m + 1 - 1 = m by omega, hz] at a1
    unfold f_X10_advance_159
    have n2 : (Int32.ofNat T.length ≤ Int32.ofNat (e + j)) = False := nleF (by omega) (by omega) (by omega)
    have di := fun h => c_isDigit (N := N) (h := h) (c := c) (by omega)
    rw [c2] at di
    have e0 : (eB true = 0) = False := eq_false (by decide)
    simp (disch := first | (with_reducible assumption) | (simp only [oi_si, oi_sl, oi_sa, oi_sm, oi_sv, oi_sq, ol_si, ol_sl, ol_sa, ol_sm, ol_sv, ol_sq, oa_si, oa_sl, oa_sa, oa_sm, oa_sv, oa_sq, om_si, om_sl, om_sa, om_sm, om_sv, om_sq, ov_si, ov_sl, ov_sa, ov_sm, ov_sv, ov_sq, oq_si, oq_sl, oq_sa, oq_sm, oq_sv, oq_sq, Nat.reduceEqDiff, ↓reduceIte]; done) | omega | (exact ixn (by omega) (by omega)) | (exact ixl (by decide) (by decide)) | (simp only [pt_len, pl, z0, z1, z2, z3, z4, z5, z6, z7, z8, z9, z10, z11, z12]; omega)) only [↓gb_m, ↓gc_m, ↓gl_s, ↓gg_m, gb_s, gc_s, gg_t, gqm_0, gqm_1, pt_pt, sa_sa, sm_sm, si_si, qk10, qg10_0, qg10_1, qs10_1, qg10_2, qs10_2, qg10_3, qs10_3, qg10_4, qs10_4, qg10_5, qs10_5, qg10_6, qs10_6, qa10_0, qe10_0, ql10_0, oi_si, oi_sl, oi_sa, oi_sm, oi_sv, oi_sq, ol_si, ol_sl, ol_sa, ol_sm, ol_sv, ol_sq, oa_si, oa_sl, oa_sa, oa_sm, oa_sv, oa_sq, om_si, om_sl, om_sa, om_sm, om_sv, om_sq, ov_si, ov_sl, ov_sa, ov_sm, ov_sv, ov_sq, oq_si, oq_sl, oq_sa, oq_sm, oq_sv, oq_sq, Nat.reduceEqDiff, ↓reduceIte, n_add, n_addl, n_ladd, n_add1, n_mul, n_lmul, n_mull, n_sub, n_subl, n_subm, n_lt, n_le, n_eq, n_ltl, n_llt, n_lel, n_lle, n_eql, n_leq, n_m1, n_m1l, n_lt0, n_ge0, i_okc, i_okl, if_true, if_false, not_true, not_false, Nat.not_lt_zero, Nat.zero_le, h6, hR.1, n2, ra, di, e0, h4, a1]
theorem c_adv119 (hF : p + 2 ≤ h.length) (hN : 2000 ≤ N) (hT : TOk T) {D : OD} (hR : RepTa T D) {e : Nat} (he : e ≤ T.length) (hb : ∀ c, T[e]? = some c → isB c = false) (h3 : oi D 3 = Int32.ofNat e) (h6 : oi D 6 = Int32.ofNat (e + ((T.drop e).takeWhile isL).length)) (h5 : ol D 5 = Int64.ofNat (v32 ((T.drop e).takeWhile isL))) : ∃ D', f_X10_advance_119 N p (pt sX10 p D h) = some (pt sX10 p D' h) ∧ CK T (tkF T e) D' := by
  have tl := hT.1
  have tv : TV (tkF T e) := (tkz_ok (T.length - e) e (T.drop e) (by rw [List.length_drop]; omega) (by rw [List.length_drop]; omega)).1
  have rl := tw_len isL (T.drop e)
  rw [List.length_drop] at rl
  unfold f_X10_advance_119 f_X10_advance_150
  rcases Nat.eq_zero_or_pos ((T.drop e).takeWhile isL).length with r0 | r1
  · -- no word
    rw [r0, Nat.add_zero] at h6
    have n1 : (Int32.ofNat e ≤ Int32.ofNat e) = True := nleT (Nat.le_refl _) (by omega) (by omega)
    have nl : ∀ c, T[e]? = some c → isB c = false ∧ isL c = false := by
      intro c hc
      refine ⟨hb c hc, ?_⟩
      have := run_end (T := T) (q := isL) (e := e) (c := c)
      rw [r0, Nat.add_zero] at this
      exact this hc
    obtain ⟨D1, a1, a2, a3, a4, a5⟩ := c_adv159 (N := N) (h := h) hF hT he ((T.drop e).takeWhile isD).length 0 N (si D 4 0) (by omega) (by
      have := tw_len isD (T.drop e)
      rw [List.length_drop] at this
      omega) hR h3 (by rw [oi_si, if_neg (by decide), Nat.add_zero]; exact h6) (by rw [oi_si, if_pos rfl]; rfl)
    obtain ⟨D2, b1, b2⟩ := c_adv222 (N := N) (h := h) hF hT a2 he nl a3 a4 a5
    refine ⟨D2, ?_, b2⟩
    simp (disch := first | (with_reducible assumption) | (simp only [oi_si, oi_sl, oi_sa, oi_sm, oi_sv, oi_sq, ol_si, ol_sl, ol_sa, ol_sm, ol_sv, ol_sq, oa_si, oa_sl, oa_sa, oa_sm, oa_sv, oa_sq, om_si, om_sl, om_sa, om_sm, om_sv, om_sq, ov_si, ov_sl, ov_sa, ov_sm, ov_sv, ov_sq, oq_si, oq_sl, oq_sa, oq_sm, oq_sv, oq_sq, Nat.reduceEqDiff, ↓reduceIte]; done) | omega | (exact ixn (by omega) (by omega)) | (exact ixl (by decide) (by decide)) | (simp only [pt_len, pl, z0, z1, z2, z3, z4, z5, z6, z7, z8, z9, z10, z11, z12]; omega)) only [↓gb_m, ↓gc_m, ↓gl_s, ↓gg_m, gb_s, gc_s, gg_t, gqm_0, gqm_1, pt_pt, sa_sa, sm_sm, si_si, qk10, qg10_0, qg10_1, qs10_1, qg10_2, qs10_2, qg10_3, qs10_3, qg10_4, qs10_4, qg10_5, qs10_5, qg10_6, qs10_6, qa10_0, qe10_0, ql10_0, oi_si, oi_sl, oi_sa, oi_sm, oi_sv, oi_sq, ol_si, ol_sl, ol_sa, ol_sm, ol_sv, ol_sq, oa_si, oa_sl, oa_sa, oa_sm, oa_sv, oa_sq, om_si, om_sl, om_sa, om_sm, om_sv, om_sq, ov_si, ov_sl, ov_sa, ov_sm, ov_sv, ov_sq, oq_si, oq_sl, oq_sa, oq_sm, oq_sv, oq_sq, Nat.reduceEqDiff, ↓reduceIte, n_add, n_addl, n_ladd, n_add1, n_mul, n_lmul, n_mull, n_sub, n_subl, n_subm, n_lt, n_le, n_eq, n_ltl, n_llt, n_lel, n_lle, n_eql, n_leq, n_m1, n_m1l, n_lt0, n_ge0, i_okc, i_okl, if_true, if_false, not_true, not_false, Nat.not_lt_zero, Nat.zero_le, h6, h3, n1, a1, b1]
  · have n1 : (Int32.ofNat (e + ((T.drop e).takeWhile isL).length) ≤ Int32.ofNat e) = False := nleF (by omega) (by omega) (by omega)
    have q : e < T.length := by omega
    obtain ⟨c, hc⟩ : ∃ c, T[e]? = some c := ⟨_, List.getElem?_eq_getElem q⟩
    have ed : T.drop e = c :: T.drop (e + 1) := by
      rw [List.drop_eq_getElem_cons q]
      rw [List.getElem?_eq_getElem q] at hc
      cases hc
      rfl
    have b1 := hb c hc
    have b2 : isL c = true := by
      cases z : isL c with
      | true => rfl
      | false =>
        rw [ed, List.takeWhile_cons, z] at r1
        cases r1
    have etk : tkF T e = (if ((T.drop e).takeWhile isL).length ≤ 8 then 1 else 4, e, (T.drop e).takeWhile isL) :: tkF T (e + ((T.drop e).takeWhile isL).length) := by
      have u : tkF T e = tkz (T.length - (e + 1) + 1) e (c :: T.drop (e + 1)) := by
        unfold tkF
        rw [ed, show T.length - e = T.length - (e + 1) + 1 by omega]
      have f2 : tkz (T.length - (e + 1)) (e + ((c :: T.drop (e + 1)).takeWhile isL).length) ((c :: T.drop (e + 1)).drop ((c :: T.drop (e + 1)).takeWhile isL).length) = tkF T (e + ((c :: T.drop (e + 1)).takeWhile isL).length) := tkF_of (by rw [← ed, List.drop_drop]) (by rw [← ed]; rw [List.length_drop, List.length_drop]; omega)
      have ff : ¬ (false = true) := by decide
      rw [u, tkz_c, b1, b2, if_neg ff, if_pos rfl, f2, ← ed]
    have fin : ∀ k, k = kd (hd (tkF T e)) → CK T (tkF T e) (si D 2 (Int32.ofNat k)) := by
      intro k hk
      rw [etk] at hk tv ⊢
      refine ⟨hR, tv, h3, by rw [oi_si, if_pos rfl, hk], fun _ => h5, ?_, e + ((T.drop e).takeWhile isL).length, h6, by omega, fun _ => rfl, ?_⟩
      · intro z
        have z : (if ((T.drop e).takeWhile isL).length ≤ 8 then 1 else 4) = 2 := z
        split at z <;> omega
      · intro _
        refine ⟨rfl, fun j hj => ?_⟩
        have hj : j < ((T.drop e).takeWhile isL).length := hj
        obtain ⟨x, x1, x2, x3⟩ := (tw_at (T.drop e)).1 j hj
        rw [List.getElem?_drop] at x1
        show T[e + j]? = ((T.drop e).takeWhile isL)[j]?
        rw [x1, x2]
    by_cases c4 : ((T.drop e).takeWhile isL).length ≤ 8
    · have n2 : ((8 : Int32) < Int32.ofNat (((T.drop e).takeWhile isL).length)) = False := nltF (a := 8) (by omega) (by omega) (by omega)
      refine ⟨si D 2 (Int32.ofNat 1), ?_, fin 1 (by rw [etk]; unfold kd hd; simp [c4])⟩
      simp (disch := first | (with_reducible assumption) | (simp only [oi_si, oi_sl, oi_sa, oi_sm, oi_sv, oi_sq, ol_si, ol_sl, ol_sa, ol_sm, ol_sv, ol_sq, oa_si, oa_sl, oa_sa, oa_sm, oa_sv, oa_sq, om_si, om_sl, om_sa, om_sm, om_sv, om_sq, ov_si, ov_sl, ov_sa, ov_sm, ov_sv, ov_sq, oq_si, oq_sl, oq_sa, oq_sm, oq_sv, oq_sq, Nat.reduceEqDiff, ↓reduceIte]; done) | omega | (exact ixn (by omega) (by omega)) | (exact ixl (by decide) (by decide)) | (simp only [pt_len, pl, z0, z1, z2, z3, z4, z5, z6, z7, z8, z9, z10, z11, z12]; omega)) only [↓gb_m, ↓gc_m, ↓gl_s, ↓gg_m, gb_s, gc_s, gg_t, gqm_0, gqm_1, pt_pt, sa_sa, sm_sm, si_si, qk10, qg10_0, qg10_1, qs10_1, qg10_2, qs10_2, qg10_3, qs10_3, qg10_4, qs10_4, qg10_5, qs10_5, qg10_6, qs10_6, qa10_0, qe10_0, ql10_0, oi_si, oi_sl, oi_sa, oi_sm, oi_sv, oi_sq, ol_si, ol_sl, ol_sa, ol_sm, ol_sv, ol_sq, oa_si, oa_sl, oa_sa, oa_sm, oa_sv, oa_sq, om_si, om_sl, om_sa, om_sm, om_sv, om_sq, ov_si, ov_sl, ov_sa, ov_sm, ov_sv, ov_sq, oq_si, oq_sl, oq_sa, oq_sm, oq_sv, oq_sq, Nat.reduceEqDiff, ↓reduceIte, n_add, n_addl, n_ladd, n_add1, n_mul, n_lmul, n_mull, n_sub, n_subl, n_subm, n_lt, n_le, n_eq, n_ltl, n_llt, n_lel, n_lle, n_eql, n_leq, n_m1, n_m1l, n_lt0, n_ge0, i_okc, i_okl, if_true, if_false, not_true, not_false, Nat.not_lt_zero, Nat.zero_le, h6, h3, n1, Nat.add_sub_cancel_left, n2]
      rfl
    · have n2 : ((8 : Int32) < Int32.ofNat (((T.drop e).takeWhile isL).length)) = True := nltT (a := 8) (by omega) (by omega) (by omega)
      refine ⟨si D 2 (Int32.ofNat 3), ?_, fin 3 (by rw [etk]; unfold kd hd; simp [c4])⟩
      simp (disch := first | (with_reducible assumption) | (simp only [oi_si, oi_sl, oi_sa, oi_sm, oi_sv, oi_sq, ol_si, ol_sl, ol_sa, ol_sm, ol_sv, ol_sq, oa_si, oa_sl, oa_sa, oa_sm, oa_sv, oa_sq, om_si, om_sl, om_sa, om_sm, om_sv, om_sq, ov_si, ov_sl, ov_sa, ov_sm, ov_sv, ov_sq, oq_si, oq_sl, oq_sa, oq_sm, oq_sv, oq_sq, Nat.reduceEqDiff, ↓reduceIte]; done) | omega | (exact ixn (by omega) (by omega)) | (exact ixl (by decide) (by decide)) | (simp only [pt_len, pl, z0, z1, z2, z3, z4, z5, z6, z7, z8, z9, z10, z11, z12]; omega)) only [↓gb_m, ↓gc_m, ↓gl_s, ↓gg_m, gb_s, gc_s, gg_t, gqm_0, gqm_1, pt_pt, sa_sa, sm_sm, si_si, qk10, qg10_0, qg10_1, qs10_1, qg10_2, qs10_2, qg10_3, qs10_3, qg10_4, qs10_4, qg10_5, qs10_5, qg10_6, qs10_6, qa10_0, qe10_0, ql10_0, oi_si, oi_sl, oi_sa, oi_sm, oi_sv, oi_sq, ol_si, ol_sl, ol_sa, ol_sm, ol_sv, ol_sq, oa_si, oa_sl, oa_sa, oa_sm, oa_sv, oa_sq, om_si, om_sl, om_sa, om_sm, om_sv, om_sq, ov_si, ov_sl, ov_sa, ov_sm, ov_sv, ov_sq, oq_si, oq_sl, oq_sa, oq_sm, oq_sv, oq_sq, Nat.reduceEqDiff, ↓reduceIte, n_add, n_addl, n_ladd, n_add1, n_mul, n_lmul, n_mull, n_sub, n_subl, n_subm, n_lt, n_le, n_eq, n_ltl, n_llt, n_lel, n_lle, n_eql, n_leq, n_m1, n_m1l, n_lt0, n_ge0, i_okc, i_okl, if_true, if_false, not_true, not_false, Nat.not_lt_zero, Nat.zero_le, h6, h3, n1, Nat.add_sub_cancel_left, n2]
      rfl
theorem c_adv52 (hF : p + 2 ≤ h.length) (hT : TOk T) {e : Nat} (he : e ≤ T.length) : ∀ n j m D, j + n = ((T.drop e).takeWhile isL).length → n < m → RepTa T D → oi D 3 = Int32.ofNat e → oi D 6 = Int32.ofNat (e + j) → ol D 5 = Int64.ofNat (v32 (((T.drop e).takeWhile isL).take j)) → ∃ D', gi (fun zk zs => f_X10_advance_52 N zk zs.1 zs.2) m (p, pt sX10 p D h) = f_X10_advance_119 N p (pt sX10 p D' h) ∧ RepTa T D' ∧ oi D' 3 = Int32.ofNat e ∧ oi D' 6 = Int32.ofNat (e + ((T.drop e).takeWhile isL).length) ∧ ol D' 5 = Int64.ofNat (v32 ((T.drop e).takeWhile isL)) := by
  have tl := hT.1
  have rl := tw_len isL (T.drop e)
  rw [List.length_drop] at rl
  intro n
  induction n with
  | zero =>
    intro j m D hj hm hR h3 h6 h4
    have : j = ((T.drop e).takeWhile isL).length := by omega
    subst this
    rw [List.take_length] at h4
    refine ⟨D, ?_, hR, h3, h6, h4⟩
    obtain ⟨m, rfl⟩ : ∃ k, m = k + 1 := ⟨m - 1, by omega⟩
    rw [gi_1]
    generalize hz : gi _ m = zk
    dsimp only
    unfold f_X10_advance_52
    rcases Nat.lt_or_ge (e + ((T.drop e).takeWhile isL).length) T.length with q | q
    · obtain ⟨c, hc⟩ : ∃ c, T[e + ((T.drop e).takeWhile isL).length]? = some c := ⟨_, List.getElem?_eq_getElem q⟩
      have cf := run_end hc
      have c127 := hT.lt hc
      have ra := hR.2 _ c hc
      have n2 : (Int32.ofNat T.length ≤ Int32.ofNat (e + ((T.drop e).takeWhile isL).length)) = False := nleF (by omega) (by omega) (by omega)
      have di := fun h => c_isLetter (N := N) (h := h) (c := c) (by omega)
      rw [cf] at di
      have e0 : eB false = 0 := rfl
      simp (disch := first | (with_reducible assumption) | (simp only [oi_si, oi_sl, oi_sa, oi_sm, oi_sv, oi_sq, ol_si, ol_sl, ol_sa, ol_sm, ol_sv, ol_sq, oa_si, oa_sl, oa_sa, oa_sm, oa_sv, oa_sq, om_si, om_sl, om_sa, om_sm, om_sv, om_sq, ov_si, ov_sl, ov_sa, ov_sm, ov_sv, ov_sq, oq_si, oq_sl, oq_sa, oq_sm, oq_sv, oq_sq, Nat.reduceEqDiff, ↓reduceIte]; done) | omega | (exact ixn (by omega) (by omega)) | (exact ixl (by decide) (by decide)) | (simp only [pt_len, pl, z0, z1, z2, z3, z4, z5, z6, z7, z8, z9, z10, z11, z12]; omega)) only [↓gb_m, ↓gc_m, ↓gl_s, ↓gg_m, gb_s, gc_s, gg_t, gqm_0, gqm_1, pt_pt, sa_sa, sm_sm, si_si, qk10, qg10_0, qg10_1, qs10_1, qg10_2, qs10_2, qg10_3, qs10_3, qg10_4, qs10_4, qg10_5, qs10_5, qg10_6, qs10_6, qa10_0, qe10_0, ql10_0, oi_si, oi_sl, oi_sa, oi_sm, oi_sv, oi_sq, ol_si, ol_sl, ol_sa, ol_sm, ol_sv, ol_sq, oa_si, oa_sl, oa_sa, oa_sm, oa_sv, oa_sq, om_si, om_sl, om_sa, om_sm, om_sv, om_sq, ov_si, ov_sl, ov_sa, ov_sm, ov_sv, ov_sq, oq_si, oq_sl, oq_sa, oq_sm, oq_sv, oq_sq, Nat.reduceEqDiff, ↓reduceIte, n_add, n_addl, n_ladd, n_add1, n_mul, n_lmul, n_mull, n_sub, n_subl, n_subm, n_lt, n_le, n_eq, n_ltl, n_llt, n_lel, n_lle, n_eql, n_leq, n_m1, n_m1l, n_lt0, n_ge0, i_okc, i_okl, if_true, if_false, not_true, not_false, Nat.not_lt_zero, Nat.zero_le, h6, hR.1, n2, ra, di, e0]
    · have n2 : (Int32.ofNat T.length ≤ Int32.ofNat (e + ((T.drop e).takeWhile isL).length)) = True := nleT (by omega) (by omega) (by omega)
      simp (disch := first | (with_reducible assumption) | (simp only [oi_si, oi_sl, oi_sa, oi_sm, oi_sv, oi_sq, ol_si, ol_sl, ol_sa, ol_sm, ol_sv, ol_sq, oa_si, oa_sl, oa_sa, oa_sm, oa_sv, oa_sq, om_si, om_sl, om_sa, om_sm, om_sv, om_sq, ov_si, ov_sl, ov_sa, ov_sm, ov_sv, ov_sq, oq_si, oq_sl, oq_sa, oq_sm, oq_sv, oq_sq, Nat.reduceEqDiff, ↓reduceIte]; done) | omega | (exact ixn (by omega) (by omega)) | (exact ixl (by decide) (by decide)) | (simp only [pt_len, pl, z0, z1, z2, z3, z4, z5, z6, z7, z8, z9, z10, z11, z12]; omega)) only [↓gb_m, ↓gc_m, ↓gl_s, ↓gg_m, gb_s, gc_s, gg_t, gqm_0, gqm_1, pt_pt, sa_sa, sm_sm, si_si, qk10, qg10_0, qg10_1, qs10_1, qg10_2, qs10_2, qg10_3, qs10_3, qg10_4, qs10_4, qg10_5, qs10_5, qg10_6, qs10_6, qa10_0, qe10_0, ql10_0, oi_si, oi_sl, oi_sa, oi_sm, oi_sv, oi_sq, ol_si, ol_sl, ol_sa, ol_sm, ol_sv, ol_sq, oa_si, oa_sl, oa_sa, oa_sm, oa_sv, oa_sq, om_si, om_sl, om_sa, om_sm, om_sv, om_sq, ov_si, ov_sl, ov_sa, ov_sm, ov_sv, ov_sq, oq_si, oq_sl, oq_sa, oq_sm, oq_sv, oq_sq, Nat.reduceEqDiff, ↓reduceIte, n_add, n_addl, n_ladd, n_add1, n_mul, n_lmul, n_mull, n_sub, n_subl, n_subm, n_lt, n_le, n_eq, n_ltl, n_llt, n_lel, n_lle, n_eql, n_leq, n_m1, n_m1l, n_lt0, n_ge0, i_okc, i_okl, if_true, if_false, not_true, not_false, Nat.not_lt_zero, Nat.zero_le, h6, hR.1, n2]
  | succ n ih =>
    intro j m D hj hm hR h3 h6 h4
    obtain ⟨c, c1, c2, c3⟩ := run_at (T := T) (q := isL) (e := e) (j := j) (by omega)
    have c127 := hT.lt c1
    have ra := hR.2 _ c c1
    have cl : 97 ≤ c := by
      unfold isL at c2
      simp at c2
      omega
    obtain ⟨D', a1, a2⟩ := ih (j + 1) (m - 1) (si (sl D 5 (Int64.ofNat (v32 (((T.drop e).takeWhile isL).take j) * 32 + (c - 97 + 1)))) 6 (Int32.ofNat (e + j + 1))) (by omega) (by omega) hR h3 (by rw [oi_si, if_pos rfl]; rfl) (by
      rw [ol_si, ol_sl, if_pos rfl, c3, v32_s]
      congr 1
      omega)
    refine ⟨D', ?_, a2⟩
    obtain ⟨m, rfl⟩ : ∃ k, m = k + 1 := ⟨m - 1, by omega⟩
    rw [gi_1]
    generalize hz : gi _ m = zk
    dsimp only
    rw [show m + 1 - 1 = m by omega, hz] at a1
    unfold f_X10_advance_52
    have n2 : (Int32.ofNat T.length ≤ Int32.ofNat (e + j)) = False := nleF (by omega) (by omega) (by omega)
    have di := fun h => c_isLetter (N := N) (h := h) (c := c) (by omega)
    rw [c2] at di
    have e0 : (eB true = 0) = False := eq_false (by decide)
    have lv : Int64.ofNat (v32 (((T.drop e).takeWhile isL).take j)) * 32 + Int32.toInt64 (Int32.ofNat (c - 97 + 1)) = Int64.ofNat (v32 (((T.drop e).takeWhile isL).take j) * 32 + (c - 97 + 1)) := by
      have e1 : (32 : Int64) = Int64.ofNat 32 := rfl
      rw [i2l (by omega), e1, l_mul, l_add]
    simp (disch := first | (with_reducible assumption) | (simp only [oi_si, oi_sl, oi_sa, oi_sm, oi_sv, oi_sq, ol_si, ol_sl, ol_sa, ol_sm, ol_sv, ol_sq, oa_si, oa_sl, oa_sa, oa_sm, oa_sv, oa_sq, om_si, om_sl, om_sa, om_sm, om_sv, om_sq, ov_si, ov_sl, ov_sa, ov_sm, ov_sv, ov_sq, oq_si, oq_sl, oq_sa, oq_sm, oq_sv, oq_sq, Nat.reduceEqDiff, ↓reduceIte]; done) | omega | (exact ixn (by omega) (by omega)) | (exact ixl (by decide) (by decide)) | (simp only [pt_len, pl, z0, z1, z2, z3, z4, z5, z6, z7, z8, z9, z10, z11, z12]; omega)) only [↓gb_m, ↓gc_m, ↓gl_s, ↓gg_m, gb_s, gc_s, gg_t, gqm_0, gqm_1, pt_pt, sa_sa, sm_sm, si_si, qk10, qg10_0, qg10_1, qs10_1, qg10_2, qs10_2, qg10_3, qs10_3, qg10_4, qs10_4, qg10_5, qs10_5, qg10_6, qs10_6, qa10_0, qe10_0, ql10_0, oi_si, oi_sl, oi_sa, oi_sm, oi_sv, oi_sq, ol_si, ol_sl, ol_sa, ol_sm, ol_sv, ol_sq, oa_si, oa_sl, oa_sa, oa_sm, oa_sv, oa_sq, om_si, om_sl, om_sa, om_sm, om_sv, om_sq, ov_si, ov_sl, ov_sa, ov_sm, ov_sv, ov_sq, oq_si, oq_sl, oq_sa, oq_sm, oq_sv, oq_sq, Nat.reduceEqDiff, ↓reduceIte, n_add, n_addl, n_ladd, n_add1, n_mul, n_lmul, n_mull, n_sub, n_subl, n_subm, n_lt, n_le, n_eq, n_ltl, n_llt, n_lel, n_lle, n_eql, n_leq, n_m1, n_m1l, n_lt0, n_ge0, i_okc, i_okl, if_true, if_false, not_true, not_false, Nat.not_lt_zero, Nat.zero_le, h6, hR.1, n2, ra, di, e0, h4, lv, a1]
theorem c_advance (hF : p + 2 ≤ h.length) (hN : 2000 ≤ N) (hT : TOk T) {D : OD} (hR : RepTa T D) {e : Nat} (he : e ≤ T.length) (h6 : oi D 6 = Int32.ofNat e) : ∃ D', f_X10_advance N p (pt sX10 p D h) = some (pt sX10 p D' h) ∧ CK T (tkF T e) D' := by
  have tl := hT.1
  have lp : ∀ n e m D, e + n = T.length → n < m → RepTa T D → oi D 6 = Int32.ofNat e → ∃ D', gi (fun zk zs => f_X10_advance_0 N zk zs.1 zs.2) m (p, pt sX10 p D h) = some (pt sX10 p D' h) ∧ CK T (tkF T e) D' := by
    intro n
    induction n with
    | zero =>
      intro e m D hn hm hR h6
      have n2 : (Int32.ofNat T.length ≤ Int32.ofNat e) = True := nleT (by omega) (by omega) (by omega)
      obtain ⟨D1, a1, a2, a3, a4, a5⟩ := c_adv52 (N := N) (h := h) hF hT (e := e) (by omega) ((T.drop e).takeWhile isL).length 0 N (sl (si D 3 (Int32.ofNat e)) 5 0) (by omega) (by
        have := tw_len isL (T.drop e)
        rw [List.length_drop] at this
        omega) hR (by rw [oi_sl, oi_si, if_pos rfl]) (by rw [oi_sl, oi_si, if_neg (by decide), Nat.add_zero]; exact h6) (by rw [ol_sl, if_pos rfl]; rfl)
      obtain ⟨D2, b1, b2⟩ := c_adv119 (N := N) (h := h) hF hN hT a2 (by omega) (fun c hc => by have := ln_of hc; omega) a3 a4 a5
      refine ⟨D2, ?_, b2⟩
      obtain ⟨m, rfl⟩ : ∃ k, m = k + 1 := ⟨m - 1, by omega⟩
      rw [gi_1]
      generalize hz : gi _ m = zk
      dsimp only
      unfold f_X10_advance_0 f_X10_advance_39
      simp (disch := first | (with_reducible assumption) | (simp only [oi_si, oi_sl, oi_sa, oi_sm, oi_sv, oi_sq, ol_si, ol_sl, ol_sa, ol_sm, ol_sv, ol_sq, oa_si, oa_sl, oa_sa, oa_sm, oa_sv, oa_sq, om_si, om_sl, om_sa, om_sm, om_sv, om_sq, ov_si, ov_sl, ov_sa, ov_sm, ov_sv, ov_sq, oq_si, oq_sl, oq_sa, oq_sm, oq_sv, oq_sq, Nat.reduceEqDiff, ↓reduceIte]; done) | omega | (exact ixn (by omega) (by omega)) | (exact ixl (by decide) (by decide)) | (simp only [pt_len, pl, z0, z1, z2, z3, z4, z5, z6, z7, z8, z9, z10, z11, z12]; omega)) only [↓gb_m, ↓gc_m, ↓gl_s, ↓gg_m, gb_s, gc_s, gg_t, gqm_0, gqm_1, pt_pt, sa_sa, sm_sm, si_si, qk10, qg10_0, qg10_1, qs10_1, qg10_2, qs10_2, qg10_3, qs10_3, qg10_4, qs10_4, qg10_5, qs10_5, qg10_6, qs10_6, qa10_0, qe10_0, ql10_0, oi_si, oi_sl, oi_sa, oi_sm, oi_sv, oi_sq, ol_si, ol_sl, ol_sa, ol_sm, ol_sv, ol_sq, oa_si, oa_sl, oa_sa, oa_sm, oa_sv, oa_sq, om_si, om_sl, om_sa, om_sm, om_sv, om_sq, ov_si, ov_sl, ov_sa, ov_sm, ov_sv, ov_sq, oq_si, oq_sl, oq_sa, oq_sm, oq_sv, oq_sq, Nat.reduceEqDiff, ↓reduceIte, n_add, n_addl, n_ladd, n_add1, n_mul, n_lmul, n_mull, n_sub, n_subl, n_subm, n_lt, n_le, n_eq, n_ltl, n_llt, n_lel, n_lle, n_eql, n_leq, n_m1, n_m1l, n_lt0, n_ge0, i_okc, i_okl, if_true, if_false, not_true, not_false, Nat.not_lt_zero, Nat.zero_le, h6, hR.1, n2, a1, b1]
    | succ n ih =>
      intro e m D hn hm hR h6
      obtain ⟨c, hc⟩ : ∃ c, T[e]? = some c := ⟨_, List.getElem?_eq_getElem (by omega)⟩
      have c127 := hT.lt hc
      have ra := hR.2 _ c hc
      have n2 : (Int32.ofNat T.length ≤ Int32.ofNat e) = False := nleF (by omega) (by omega) (by omega)
      have di := fun h => c_isBlank (N := N) (h := h) (c := c) (by omega)
      cases hb : isB c with
      | true =>
        rw [hb] at di
        have e0 : (eB true = 0) = False := eq_false (by decide)
        obtain ⟨D', a1, a2⟩ := ih (e + 1) (m - 1) (si D 6 (Int32.ofNat (e + 1))) (by omega) (by omega) hR (by rw [oi_si, if_pos rfl])
        have etk : tkF T e = tkF T (e + 1) := by
          have ed : T.drop e = c :: T.drop (e + 1) := by
            have hl : e < T.length := by omega
            have hg : T[e]? = some T[e] := List.getElem?_eq_getElem hl
            rw [hc] at hg
            rw [List.drop_eq_getElem_cons hl, Option.some.inj hg]
          have u : tkF T e = tkz (T.length - (e + 1) + 1) e (c :: T.drop (e + 1)) := by
            unfold tkF
            rw [ed, show T.length - e = T.length - (e + 1) + 1 by omega]
          rw [u, tkz_c, hb, if_pos rfl]
          rfl
        rw [etk]
        refine ⟨D', ?_, a2⟩
        obtain ⟨m, rfl⟩ : ∃ k, m = k + 1 := ⟨m - 1, by omega⟩
        rw [gi_1]
        generalize hz : gi _ m = zk
        dsimp only
        rw [show m + 1 - 1 = m by omega, hz] at a1
        unfold f_X10_advance_0
        simp (disch := first | (with_reducible assumption) | (simp only [oi_si, oi_sl, oi_sa, oi_sm, oi_sv, oi_sq, ol_si, ol_sl, ol_sa, ol_sm, ol_sv, ol_sq, oa_si, oa_sl, oa_sa, oa_sm, oa_sv, oa_sq, om_si, om_sl, om_sa, om_sm, om_sv, om_sq, ov_si, ov_sl, ov_sa, ov_sm, ov_sv, ov_sq, oq_si, oq_sl, oq_sa, oq_sm, oq_sv, oq_sq, Nat.reduceEqDiff, ↓reduceIte]; done) | omega | (exact ixn (by omega) (by omega)) | (exact ixl (by decide) (by decide)) | (simp only [pt_len, pl, z0, z1, z2, z3, z4, z5, z6, z7, z8, z9, z10, z11, z12]; omega)) only [↓gb_m, ↓gc_m, ↓gl_s, ↓gg_m, gb_s, gc_s, gg_t, gqm_0, gqm_1, pt_pt, sa_sa, sm_sm, si_si, qk10, qg10_0, qg10_1, qs10_1, qg10_2, qs10_2, qg10_3, qs10_3, qg10_4, qs10_4, qg10_5, qs10_5, qg10_6, qs10_6, qa10_0, qe10_0, ql10_0, oi_si, oi_sl, oi_sa, oi_sm, oi_sv, oi_sq, ol_si, ol_sl, ol_sa, ol_sm, ol_sv, ol_sq, oa_si, oa_sl, oa_sa, oa_sm, oa_sv, oa_sq, om_si, om_sl, om_sa, om_sm, om_sv, om_sq, ov_si, ov_sl, ov_sa, ov_sm, ov_sv, ov_sq, oq_si, oq_sl, oq_sa, oq_sm, oq_sv, oq_sq, Nat.reduceEqDiff, ↓reduceIte, n_add, n_addl, n_ladd, n_add1, n_mul, n_lmul, n_mull, n_sub, n_subl, n_subm, n_lt, n_le, n_eq, n_ltl, n_llt, n_lel, n_lle, n_eql, n_leq, n_m1, n_m1l, n_lt0, n_ge0, i_okc, i_okl, if_true, if_false, not_true, not_false, Nat.not_lt_zero, Nat.zero_le, h6, hR.1, n2, ra, di, e0, a1]
      | false =>
        rw [hb] at di
        have e0 : eB false = 0 := rfl
        obtain ⟨D1, a1, a2, a3, a4, a5⟩ := c_adv52 (N := N) (h := h) hF hT (e := e) (by omega) ((T.drop e).takeWhile isL).length 0 N (sl (si D 3 (Int32.ofNat e)) 5 0) (by omega) (by
          have := tw_len isL (T.drop e)
          rw [List.length_drop] at this
          omega) hR (by rw [oi_sl, oi_si, if_pos rfl]) (by rw [oi_sl, oi_si, if_neg (by decide), Nat.add_zero]; exact h6) (by rw [ol_sl, if_pos rfl]; rfl)
        obtain ⟨D2, b1, b2⟩ := c_adv119 (N := N) (h := h) hF hN hT a2 (by omega) (fun c' hc' => by rw [hc] at hc'; cases hc'; exact hb) a3 a4 a5
        refine ⟨D2, ?_, b2⟩
        obtain ⟨m, rfl⟩ : ∃ k, m = k + 1 := ⟨m - 1, by omega⟩
        rw [gi_1]
        generalize hz : gi _ m = zk
        dsimp only
        unfold f_X10_advance_0 f_X10_advance_39
        simp (disch := first | (with_reducible assumption) | (simp only [oi_si, oi_sl, oi_sa, oi_sm, oi_sv, oi_sq, ol_si, ol_sl, ol_sa, ol_sm, ol_sv, ol_sq, oa_si, oa_sl, oa_sa, oa_sm, oa_sv, oa_sq, om_si, om_sl, om_sa, om_sm, om_sv, om_sq, ov_si, ov_sl, ov_sa, ov_sm, ov_sv, ov_sq, oq_si, oq_sl, oq_sa, oq_sm, oq_sv, oq_sq, Nat.reduceEqDiff, ↓reduceIte]; done) | omega | (exact ixn (by omega) (by omega)) | (exact ixl (by decide) (by decide)) | (simp only [pt_len, pl, z0, z1, z2, z3, z4, z5, z6, z7, z8, z9, z10, z11, z12]; omega)) only [↓gb_m, ↓gc_m, ↓gl_s, ↓gg_m, gb_s, gc_s, gg_t, gqm_0, gqm_1, pt_pt, sa_sa, sm_sm, si_si, qk10, qg10_0, qg10_1, qs10_1, qg10_2, qs10_2, qg10_3, qs10_3, qg10_4, qs10_4, qg10_5, qs10_5, qg10_6, qs10_6, qa10_0, qe10_0, ql10_0, oi_si, oi_sl, oi_sa, oi_sm, oi_sv, oi_sq, ol_si, ol_sl, ol_sa, ol_sm, ol_sv, ol_sq, oa_si, oa_sl, oa_sa, oa_sm, oa_sv, oa_sq, om_si, om_sl, om_sa, om_sm, om_sv, om_sq, ov_si, ov_sl, ov_sa, ov_sm, ov_sv, ov_sq, oq_si, oq_sl, oq_sa, oq_sm, oq_sv, oq_sq, Nat.reduceEqDiff, ↓reduceIte, n_add, n_addl, n_ladd, n_add1, n_mul, n_lmul, n_mull, n_sub, n_subl, n_subm, n_lt, n_le, n_eq, n_ltl, n_llt, n_lel, n_lle, n_eql, n_leq, n_m1, n_m1l, n_lt0, n_ge0, i_okc, i_okl, if_true, if_false, not_true, not_false, Nat.not_lt_zero, Nat.zero_le, h6, hR.1, n2, ra, di, e0, a1, b1]
  exact lp (T.length - e) e N D (by omega) (by omega) hR h6
theorem c_next1 (hF : p + 2 ≤ h.length) (hN : 2000 ≤ N) (hT : TOk T) {D : OD} {ts : List Tok} (q : CK T ts D) (hk : (hd ts).1 ≠ 0) : ∃ D', f_X10_advance N p (pt sX10 p D h) = some (pt sX10 p D' h) ∧ CK T ts.tail D' := by
  obtain ⟨q1, q2, q3, q4, q5, q6, e, q7, q8, q9, q10⟩ := q
  rw [q9 hk]
  exact c_advance hF hN hT q1 q8 q7
/-- the words that are asked for -/
theorem sl_ok : ∀ k, k < 14 → slen k = some (Int32.ofNat (wdL.getD k []).length) := by decide
theorem sc_ok : ∀ k, k < 14 → ∀ i, i < (wdL.getD k []).length → schr k (Int32.ofNat i) = some (Int32.ofNat ((wdL.getD k []).getD i 0)) := by decide
theorem c_isWord (hN : 2000 ≤ N) {D : OD} (hA : At sX10 p D h) (hT : TOk T) {ts : List Tok} (q : CK T ts D) {k : Nat} (hk : k < 14) : f_X10_isWord N p k h = some (eB (isWd (wdL.getD k []) ts), h) := by
  obtain ⟨q1, q2, q3, q4, q5, q6, e, q7, q8, q9, q10⟩ := q
  have tl := hT.1
  have hp := q2.hd.1
  have wl := wdL_let k hk
  unfold f_X10_isWord f_X10_isWord_26 isWd
  rw [hA.gI (k := 6) rfl rfl, gb_s, hA.gI (k := 3) rfl rfl, gb_s, gl_s, hA.gI (k := 2) rfl rfl, gb_s, q7, q3, q4, gzb0, gg_t]
  by_cases c : (hd ts).1 = 1
  · have kk : kd (hd ts) = 1 := by
      unfold kd
      rw [c]
      rfl
    obtain ⟨w1, w2⟩ := q10 c
    have ok := hp.2.1 c
    have t1 : Int32.ofNat 1 = (1 : Int32) := rfl
    rw [kk, if_pos t1, sl_ok k hk, gb_s, n_sub (by omega), w1, Nat.add_sub_cancel_left, decide_eq_true c, Bool.true_and]
    by_cases c2 : (wdL.getD k []).length = (hd ts).2.2.length
    · rw [if_pos (by rw [c2])]
      -- sign by sign
      have lp : ∀ n i m, i + n = (hd ts).2.2.length → n < m → (hd ts).2.2.take i = (wdL.getD k []).take i → gi (fun zk zs => f_X10_isWord_30 N zk zs.1 zs.2.1 zs.2.2.1 zs.2.2.2.1 zs.2.2.2.2) m (p, k, Int32.ofNat (hd ts).2.2.length, Int32.ofNat i, h) = some (eB (decide ((hd ts).2.2 = wdL.getD k [])), h) := by
        intro n
        induction n with
        | zero =>
          intro i m hi hm ht
          have : i = (hd ts).2.2.length := by omega
          subst this
          obtain ⟨m, rfl⟩ : ∃ j, m = j + 1 := ⟨m - 1, by omega⟩
          rw [List.take_length] at ht
          have ht : (hd ts).2.2 = wdL.getD k [] := by
            rw [ht]
            conv => lhs; rw [ht]
            rw [List.take_of_length_le (by rw [← ht]; omega)]
          rw [gi_1]
          dsimp only
          unfold f_X10_isWord_30
          rw [if_pos (of_eq_true (nleT (Nat.le_refl _) (by omega) (by omega))), gzb1, gg_t, decide_eq_true ht]
          rfl
        | succ n ih =>
          intro i m hi hm ht
          obtain ⟨m, rfl⟩ : ∃ j, m = j + 1 := ⟨m - 1, by omega⟩
          have ih2 := ih (i + 1) m (by omega) (by omega)
          have hil : i < (hd ts).2.2.length := by omega
          have ti := w2 i hil
          rw [List.getElem?_eq_getElem hil] at ti
          have ra := q1.2 _ _ ti
          have cl := ok.2.2 _ (List.getElem_mem hil)
          have hil2 : i < (wdL.getD k []).length := by omega
          have eg : (wdL.getD k []).getD i 0 = (wdL.getD k [])[i] := by
            rw [List.getD_eq_getElem?_getD, List.getElem?_eq_getElem hil2]
            rfl
          have wl2 := wl.2 _ (List.getElem_mem hil2)
          have til := ln_of ti
          rw [gi_1]
          generalize hz : gi _ m = zk at ih2
          dsimp only
          unfold f_X10_isWord_30
          rw [if_neg (of_eq_false (nleF (by omega) (by omega) (by omega))), hA.gR (k := 0) rfl rfl, gb_s, hA.gI (k := 3) rfl rfl, gb_s, q3, n_add, hA.aI (j := 0) rfl (ixn (by omega) (by omega)), gb_s, i_okc (by omega), ra, sc_ok k hk i hil2, gb_s, eg]
          by_cases c3 : (hd ts).2.2[i] = (wdL.getD k [])[i]
          · rw [if_pos (by rw [c3]), gl_s, n_add1]
            refine ih2 ?_
            rw [List.take_add_one, List.take_add_one, ht, List.getElem?_eq_getElem hil, List.getElem?_eq_getElem hil2, c3]
          · have ne : ¬ (hd ts).2.2 = wdL.getD k [] := by
              intro z
              apply c3
              simp only [z]
            rw [if_neg (of_eq_false (neqF c3 (by omega) (by omega))), gzb0, gg_t, decide_eq_false ne]
            rfl
      exact lp (hd ts).2.2.length 0 N (by omega) (by omega) rfl
    · have ne : ¬ (hd ts).2.2 = wdL.getD k [] := fun z => c2 (by rw [z])
      rw [if_neg (of_eq_false (neqF c2 (by omega) (by omega))), decide_eq_false ne]
      rfl
  · have kn : ¬ Int32.ofNat (kd (hd ts)) = 1 := by
      refine of_eq_false (neqF (b := 1) ?_ ?_ (by omega))
      · unfold kd
        split
        · rename_i z
          obtain ⟨y, y1, y2⟩ := hp.2.2.2.1 z
          rw [y1]
          show ¬ y = 1
          unfold isS at y2
          simp only [Bool.or_eq_true, decide_eq_true_eq] at y2
          omega
        · split <;> omega
      · unfold kd
        split
        · rename_i z
          obtain ⟨y, y1, y2⟩ := hp.2.2.2.1 z
          rw [y1]
          show y < _
          unfold isS at y2
          simp only [Bool.or_eq_true, decide_eq_true_eq] at y2
          omega
        · have := hp.1
          split <;> omega
    rw [if_neg kn, decide_eq_false c]
    rfl
end CTok2

