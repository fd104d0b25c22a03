/-! The component reads: the reader's small steps -/
def H3 (c : Nat) (h : PH) (R D E : OD) : PH := pt sX3 3 R (pt sX10 1 D (pt sX2 c E h))
def RR (c : Nat) (R : OD) : Prop := ov R 0 = .ref 1 ∧ ov R 1 = .ref c
/-- the codes read so far -/
def CCo (cs : List Cd) (E : OD) : Prop := oi E 11 = Int32.ofNat cs.length ∧ ∀ (j : Nat) (x : Cd), cs[j]? = some x → oa E 9 j = cCd x
section CRdr
variable {N : Nat} {h : PH} {c : Nat} {T : List Nat}
theorem H3_t (hc : 66 ≤ c) {R D E : OD} : H3 c h R D E = pt sX10 1 D (pt sX3 3 R (pt sX2 c E h)) := by
  unfold H3
  exact pt_comm (by simp only [z3, z10]; omega)
theorem H3_i (hc : 66 ≤ c) {R D E : OD} : H3 c h R D E = pt sX2 c E (pt sX3 3 R (pt sX10 1 D h)) := by
  unfold H3
  rw [pt_comm (S := sX10) (S' := sX2) (by simp only [z2, z10]; omega), pt_comm (S := sX3) (S' := sX2) (by simp only [z2, z3]; omega)]
theorem H3_at (hc : 66 ≤ c) (hl : c + 7 ≤ h.length) {R D E : OD} : At sX3 3 R (H3 c h R D E) ∧ At sX10 1 D (H3 c h R D E) ∧ At sX2 c E (H3 c h R D E) := by
  refine ⟨?_, ?_, ?_⟩
  · exact At_pt (by rw [pt_len, pt_len]; simp only [z3]; omega)
  · rw [H3_t hc]
    exact At_pt (by rw [pt_len, pt_len]; simp only [z10]; omega)
  · rw [H3_i hc]
    exact At_pt (by rw [pt_len, pt_len]; exact hl)
theorem r_adv (hc : 66 ≤ c) (hl : c + 7 ≤ h.length) (hN : 2000 ≤ N) (hT : TOk T) {R D E : OD} {ts : List Tok} (q : CK T ts D) (hk : (hd ts).1 ≠ 0) : ∃ D', f_X10_advance N 1 (H3 c h R D E) = some (H3 c h R D' E) ∧ CK T ts.tail D' := by
  obtain ⟨D', a1, a2⟩ := c_next1 (N := N) (p := 1) (h := pt sX3 3 R (pt sX2 c E h)) (by rw [pt_len, pt_len]; omega) hN hT q hk
  refine ⟨D', ?_, a2⟩
  rw [H3_t hc, H3_t hc]
  exact a1
theorem r_word (hc : 66 ≤ c) (hl : c + 7 ≤ h.length) (hN : 2000 ≤ N) (hT : TOk T) {R D E : OD} {ts : List Tok} (q : CK T ts D) {k : Nat} (hk : k < 14) : f_X10_isWord N 1 k (H3 c h R D E) = some (eB (isWd (wdL.getD k []) ts), H3 c h R D E) := c_isWord hN (H3_at hc hl).2.1 hT q hk
theorem r_wrong (hc : 66 ≤ c) (hl : c + 7 ≤ h.length) {R D E : OD} (hR : RR c R) {ts : List Tok} (q : CK T ts D) {k : Nat} {kI : Int32} (hk : kI = Int32.ofNat k) : f_X3_isWrong N 3 kI (H3 c h R D E) = some (0, H3 c h (si R 2 (Int32.ofNat (flt k ts))) D E) := by
  obtain ⟨a1, a2, a3⟩ := H3_at (h := h) (R := R) (D := D) (E := E) hc hl
  unfold f_X3_isWrong
  have w : ∀ v, pfV 3 2 3 (.int v) (H3 c h R D E) = some (H3 c h (si R 2 v) D E) := fun v => by
    unfold H3
    exact qs3_2 (by rw [pt_len, pt_len]; omega)
  have ef : k + 16 * (hd ts).2.1 = flt k ts := rfl
  rw [a1.gV (k := 0) rfl rfl hR.1, gb_s, a2.gI (k := 3) rfl rfl, gb_s, q.2.2.1, hk, n_lmul, n_add, ef, w, gb_s, gzb0, gg_t]
theorem RR.si {R : OD} (hR : RR c R) (v : Int32) : RR c (si R 2 v) := hR
/-- the kind says which sign -/
theorem kd_sg {ts : List Tok} (hv : TV ts) {s : Nat} (hs : 40 ≤ s) (hs2 : s < 1000) : (Int32.ofNat (kd (hd ts)) = Int32.ofNat s) = (isSg s ts = true) := by
  have hp := hv.hd.1
  have kl : kd (hd ts) < 1000 ∧ ((hd ts).1 ≠ 3 → kd (hd ts) ≤ 3) := by
    unfold kd
    split
    · rename_i z
      obtain ⟨y, y1, y2⟩ := hp.2.2.2.1 z
      rw [y1]
      refine ⟨?_, fun w => absurd z w⟩
      show y < 1000
      unfold isS at y2
      simp only [Bool.or_eq_true, decide_eq_true_eq] at y2
      omega
    · have := hp.1
      split <;> omega
  rw [n_eq (by omega) (by omega)]
  unfold isSg
  by_cases z : (hd ts).1 = 3
  · obtain ⟨y, y1, y2⟩ := hp.2.2.2.1 z
    have : kd (hd ts) = y := by unfold kd; rw [if_pos z, y1]; rfl
    rw [this, decide_eq_true z, Bool.true_and, y1]
    refine propext ⟨fun w => by rw [w]; exact decide_eq_true rfl, fun w => ?_⟩
    have := of_decide_eq_true w
    cases this
    rfl
  · have := kl.2 z
    rw [decide_eq_false z, Bool.false_and]
    exact propext ⟨fun w => by omega, fun w => by cases w⟩
theorem r_takeSg (hc : 66 ≤ c) (hl : c + 7 ≤ h.length) (hN : 2000 ≤ N) (hT : TOk T) {R D E : OD} (hR : RR c R) {ts : List Tok} (q : CK T ts D) {s : Nat} {sI : Int32} (hsI : sI = Int32.ofNat s) (hs : 40 ≤ s) (hs2 : s < 1000) : ∃ v R' D', f_X3_takeSign N 3 sI (H3 c h R D E) = some (v, H3 c h R' D' E) ∧ RR c R' ∧ if isSg s ts then v = 1 ∧ CK T ts.tail D' else v = 0 ∧ oi R' 2 = Int32.ofNat (flt 1 ts) := by
  obtain ⟨a1, a2, a3⟩ := H3_at (h := h) (R := R) (D := D) (E := E) hc hl
  unfold f_X3_takeSign
  rw [a1.gV (k := 0) rfl rfl hR.1, gb_s, a2.gI (k := 2) rfl rfl, gb_s, q.2.2.2.1, hsI]
  have kk := kd_sg q.2.1 hs hs2
  cases z : isSg s ts with
  | true =>
    rw [z] at kk
    obtain ⟨D', b1, b2⟩ := r_adv (N := N) (h := h) (R := R) (E := E) hc hl hN hT q (by rw [(isSg_k z).1]; decide)
    rw [if_pos (by rw [kk]), gb_s, a2.is rfl, gg_t, b1, gb_s, gzb1, gg_t]
    exact ⟨1, R, D', rfl, hR, rfl, b2⟩
  | false =>
    rw [z] at kk
    have w := r_wrong (N := N) (h := h) (E := E) hc hl hR q (k := 1) (kI := 1) rfl
    have nk : ¬ Int32.ofNat (kd (hd ts)) = Int32.ofNat s := by rw [kk]; decide
    rw [if_neg nk, a1.is rfl, gg_t, w, gc_s, gzb0, gg_t]
    exact ⟨0, _, D, rfl, hR.si _, rfl, by rw [oi_si, if_pos rfl]⟩
theorem kd_num {ts : List Tok} (hv : TV ts) : (Int32.ofNat (kd (hd ts)) = 2) = ((hd ts).1 = 2) := by
  have hp := hv.hd.1
  have e2 : (2 : Int32) = Int32.ofNat 2 := rfl
  rw [e2]
  unfold kd
  split
  · rename_i z
    obtain ⟨y, y1, y2⟩ := hp.2.2.2.1 z
    rw [y1]
    have yl : 40 ≤ y ∧ y < 1000 := by
      unfold isS at y2
      simp only [Bool.or_eq_true, decide_eq_true_eq] at y2
      omega
    rw [show ([y] : List Nat).headD 0 = y from rfl, n_eq (by omega) (by omega)]
    exact propext ⟨fun w => by omega, fun w => by omega⟩
  · split
    · rename_i z
      rw [n_eq (by omega) (by omega)]
      exact propext ⟨fun w => by omega, fun w => by omega⟩
    · rw [n_eq (by have := hp.1; omega) (by omega)]
theorem r_num (hc : 66 ≤ c) (hl : c + 7 ≤ h.length) (hN : 2000 ≤ N) (hT : TOk T) {R D E : OD} (hR : RR c R) {ts : List Tok} (q : CK T ts D) {m : Nat} {mI : Int32} (hmI : mI = Int32.ofNat m) (hm : m < 1000) : ∃ v R' D', f_X3_takeNumber N 3 mI (H3 c h R D E) = some (v, H3 c h R' D' E) ∧ RR c R' ∧ match pNum m ts with
    | .inl f => v = -1 ∧ oi R' 2 = Int32.ofNat f
    | .inr x => v = Int32.ofNat x.1 ∧ x.1 ≤ m ∧ CK T x.2 D' := by
  obtain ⟨a1, a2, a3⟩ := H3_at (h := h) (R := R) (D := D) (E := E) hc hl
  unfold f_X3_takeNumber pNum
  rw [a1.gV (k := 0) rfl rfl hR.1, gb_s, a2.gI (k := 2) rfl rfl, gb_s, q.2.2.2.1, hmI]
  by_cases z : (hd ts).1 = 2
  · have kk : Int32.ofNat (kd (hd ts)) = 2 := by rw [kd_num q.2.1]; exact z
    have vl := q.2.1.hd.1.num z
    rw [if_pos kk, if_pos z, gb_s, a2.gI (k := 4) rfl rfl, gb_s, q.2.2.2.2.2.1 z]
    by_cases y : v10 (hd ts).2.2 ≤ m
    · obtain ⟨D', b1, b2⟩ := r_adv (N := N) (h := h) (R := R) (E := E) hc hl hN hT q (by rw [z]; decide)
      rw [if_pos (of_eq_true (nleT y (by omega) (by omega))), if_pos y, gb_s, a2.is rfl, gg_t, b1, gb_s]
      exact ⟨_, R, D', rfl, hR, rfl, y, b2⟩
    · have w := r_wrong (N := N) (h := h) (E := E) hc hl hR q (k := 4) (kI := 4) rfl
      rw [if_neg (of_eq_false (nleF y (by omega) (by omega))), if_neg y, a1.is rfl, gg_t, w, gc_s]
      exact ⟨-1, _, D, rfl, hR.si _, rfl, by rw [oi_si, if_pos rfl]⟩
  · have kk : ¬ Int32.ofNat (kd (hd ts)) = 2 := by rw [kd_num q.2.1]; exact z
    have w := r_wrong (N := N) (h := h) (E := E) hc hl hR q (k := 1) (kI := 1) rfl
    rw [if_neg kk, if_neg z, a1.is rfl, gg_t, w, gc_s]
    exact ⟨-1, _, D, rfl, hR.si _, rfl, by rw [oi_si, if_pos rfl]⟩
theorem r_code (hc : 66 ≤ c) (hl : c + 7 ≤ h.length) {R D E : OD} {cs : List Cd} (hC : CCo cs E) (hn : cs.length < 1000) (x : Cd) : ∃ E', f_X2_addCode N c (cCd x) (H3 c h R D E) = some (H3 c h R D E') ∧ Keep [9, 11] E E' ∧ CCo (cs ++ [x]) E' := by
  have hF : c + 7 ≤ (pt sX3 3 R (pt sX10 1 D h)).length := by rw [pt_len, pt_len]; exact hl
  refine ⟨si (sa E 9 (upd (oa E 9) cs.length (cCd x))) 11 (Int32.ofNat (cs.length + 1)), ?_, ?_, ?_, ?_⟩
  · rw [H3_i hc, H3_i hc]
    generalize pt sX3 3 R (pt sX10 1 D h) = h0 at hF ⊢
    unfold f_X2_addCode f_X2_addCode_32
    have n1 : (Int32.ofNat 1000 ≤ Int32.ofNat cs.length) = False := nleF (by omega) (by omega) (by omega)
    simp (disch := first | (with_reducible assumption) | (simp only [oi_si, oi_sl, oi_sa, oi_sm, oi_sv, oi_sq, ol_si, ol_sl, ol_sa, ol_sm, ol_sv, ol_sq, oa_si, oa_sl, oa_sa, oa_sm, oa_sv, oa_sq, om_si, om_sl, om_sa, om_sm, om_sv, om_sq, ov_si, ov_sl, ov_sa, ov_sm, ov_sv, ov_sq, oq_si, oq_sl, oq_sa, oq_sm, oq_sv, oq_sq, Nat.reduceEqDiff, ↓reduceIte]; done) | omega | (exact ixn (by omega) (by omega)) | (exact ixl (by decide) (by decide)) | (simp only [pt_len, pl, z0, z1, z2, z3, z4, z5, z6, z7, z8, z9, z10, z11, z12]; omega)) only [↓gb_m, ↓gc_m, ↓gl_s, ↓gg_m, gb_s, gc_s, gg_t, gqm_0, gqm_1, pt_pt, sa_sa, sm_sm, si_si, qk2, qg2_0, qs2_0, qg2_1, qs2_1, qg2_2, qs2_2, qg2_3, qs2_3, qg2_4, qs2_4, qg2_5, qg2_6, qg2_7, qg2_8, qg2_9, qg2_10, qg2_11, qs2_11, qa2_5, qe2_5, ql2_5, qa2_6, qe2_6, ql2_6, qa2_7, qe2_7, ql2_7, qa2_8, qe2_8, ql2_8, qa2_9, qe2_9, ql2_9, qa2_10, qe2_10, ql2_10, oi_si, oi_sl, oi_sa, oi_sm, oi_sv, oi_sq, ol_si, ol_sl, ol_sa, ol_sm, ol_sv, ol_sq, oa_si, oa_sl, oa_sa, oa_sm, oa_sv, oa_sq, om_si, om_sl, om_sa, om_sm, om_sv, om_sq, ov_si, ov_sl, ov_sa, ov_sm, ov_sv, ov_sq, oq_si, oq_sl, oq_sa, oq_sm, oq_sv, oq_sq, Nat.reduceEqDiff, ↓reduceIte, n_add, n_addl, n_ladd, n_add1, n_mul, n_lmul, n_mull, n_sub, n_subl, n_subm, n_lt, n_le, n_eq, n_ltl, n_llt, n_lel, n_lle, n_eql, n_leq, n_m1, n_m1l, n_lt0, n_ge0, i_okc, i_okl, if_true, if_false, not_true, not_false, Nat.not_lt_zero, Nat.zero_le, hC.1, n1, gnar_0]
  · (repeat (first | exact Keep.rf | assumption | refine k_si2 ?_ (by decide) | refine k_sa2 ?_ (by decide) | refine k_sm2 ?_ (by decide) | refine k_sl2 ?_ (by decide) | refine k_sv2 ?_ (by decide)))
  · rw [oi_si, if_pos rfl, List.length_append]
    rfl
  · intro j y hy
    rw [oa_si, oa_sa, if_pos rfl]
    rcases Nat.lt_or_ge j cs.length with z | z
    · rw [List.getElem?_append_left z] at hy
      rw [upd_ne (by omega)]
      exact hC.2 j y hy
    · have := ln_of hy
      rw [List.length_append] at this
      have this : j < cs.length + 1 := this
      have hj : j = cs.length := by omega
      subst hj
      rw [List.getElem?_append_right (Nat.le_refl _), Nat.sub_self] at hy
      cases hy
      rw [upd_eq rfl]
theorem CCo.kp {L : List Nat} {cs : List Cd} {E E' : OD} (q : CCo cs E) (h : Keep L E E') (h1 : 9 ∉ L) (h2 : 11 ∉ L) : CCo cs E' := by
  unfold CCo
  rw [h.i h2, h.a h1]
  exact q
end CRdr

