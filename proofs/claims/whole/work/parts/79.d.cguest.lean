/-! The component reads: a guest -/
theorem kd_wd {ts : List Tok} (hv : TV ts) : (Int32.ofNat (kd (hd ts)) = 1) = ((hd ts).1 = 1) := by
  have hp := hv.hd.1
  have e2 : (1 : Int32) = Int32.ofNat 1 := rfl
  rw [e2]
  unfold kd
  split
  · rename_i z
    obtain ⟨y, y1, y2⟩ := hp.2.2.2.1 z
    rw [y1]
    have yl : 40 ≤ y ∧ y < 1000 := by
      unfold isS at y2
      simp only [Bool.or_eq_true, decide_eq_true_eq] at y2
      omega
    rw [show ([y] : List Nat).headD 0 = y from rfl, n_eq (by omega) (by omega)]
    exact propext ⟨fun w => by omega, fun w => by omega⟩
  · split
    · rename_i z
      rw [n_eq (by omega) (by omega)]
      exact propext ⟨fun w => by omega, fun w => by omega⟩
    · rw [n_eq (by have := hp.1; omega) (by omega)]
theorem or0' (x : Int32) : x ||| 0 = x := by
  apply Int32.toBitVec_inj.mp
  simp
/-- the draft with one guest more -/
def gst (E : OD) (n : Nat) (w : List Nat) (v : Nat) (b i : Bool) : OD := si (si (si (sa (sm E 8 (vp_updL (om E 8) n (Int64.ofNat (v32 w)))) 7 (upd (oa E 7) n (Int32.ofNat v))) 3 (oi E 3 ||| (if b then Int32.ofNat (2 ^ n) else 0))) 4 (oi E 4 ||| (if i then Int32.ofNat (2 ^ n) else 0))) 1 (Int32.ofNat (n + 1))
theorem gmsk {α : Type} {l : List α} {d x : α} (p : α → Bool) (hd : p d = false) (hn : l.length < 10) : Int32.ofNat (msk (fun g => p (l.getD g d)) l.length) ||| (if p x then Int32.ofNat (2 ^ l.length) else 0) = Int32.ofNat (msk (fun g => p ((l ++ [x]).getD g d)) (l ++ [x]).length) := by
  have o : p (l.getD l.length d) = false := by
    rw [List.getD_eq_getElem?_getD, List.getElem?_eq_none (Nat.le_refl _)]
    exact hd
  have e1 : msk (fun g => p (l.getD g d)) l.length = msk (fun g => p (l.getD g d)) (l.length + 1) := by
    rw [show msk (fun g => p (l.getD g d)) (l.length + 1) = msk (fun g => p (l.getD g d)) l.length + if p (l.getD l.length d) then 2 ^ l.length else 0 from rfl, o]
    rfl
  have ex : ∀ k, k < l.length + 1 → (if k = l.length then p x else p (l.getD k d)) = p ((l ++ [x]).getD k d) := by
    intro k hk
    rw [List.getD_eq_getElem?_getD, List.getD_eq_getElem?_getD]
    by_cases z : k = l.length
    · subst z
      rw [if_pos rfl, List.getElem?_append_right (Nat.le_refl _), Nat.sub_self]
      rfl
    · rw [if_neg z, List.getElem?_append_left (by omega)]
  rw [List.length_append, show l.length + [x].length = l.length + 1 from rfl, e1]
  cases hx : p x with
  | true =>
    rw [if_pos rfl, msk_or _ (by omega) (by omega)]
    congr 1
    refine msk_ext (fun k hk => ?_)
    rw [← ex k hk, hx]
    rfl
  | false =>
    rw [if_neg (by decide), or0']
    congr 1
    refine msk_ext (fun k hk => ?_)
    rw [← ex k hk, hx]
    by_cases z : k = l.length
    · rw [if_pos z, z, o]
    · rw [if_neg z]
theorem CDr.gst {s : PS} {E : OD} (hD : CDr s E) (hn : s.2.1.length < 10) (w : List Nat) (v : Nat) (b i : Bool) : CDr (s.1, s.2.1 ++ [(w, v, b, i)], s.2.2) (gst E s.2.1.length w v b i) := by
  obtain ⟨e1, e2, e3, e4, e5, e6, e7, e8, e9⟩ := hD
  refine ⟨e1, ?_, e3, ?_, ?_, e6, ?_, e8, e9⟩
  · show oi (si _ 1 _) 1 = _
    rw [oi_si, if_pos rfl, List.length_append]
    rfl
  · have : oi (_root_.Jvm.Pilot.CMoveInnLaw_law_r8068_e02dce.gst E s.2.1.length w v b i) 3 = oi E 3 ||| (if b then Int32.ofNat (2 ^ s.2.1.length) else 0) := rfl
    rw [this, e4]
    exact gmsk (x := (w, v, b, i)) (fun y => y.2.2.1) rfl hn
  · have : oi (_root_.Jvm.Pilot.CMoveInnLaw_law_r8068_e02dce.gst E s.2.1.length w v b i) 4 = oi E 4 ||| (if i then Int32.ofNat (2 ^ s.2.1.length) else 0) := rfl
    rw [this, e5]
    exact gmsk (x := (w, v, b, i)) (fun y => y.2.2.2) rfl hn
  · intro g x hx
    show upd (oa E 7) s.2.1.length (Int32.ofNat v) g = _ ∧ vp_updL (om E 8) s.2.1.length (Int64.ofNat (v32 w)) g = _
    rcases Nat.lt_or_ge g s.2.1.length with u | u
    · rw [List.getElem?_append_left u] at hx
      rw [upd_ne (by omega), updL_ne (by omega)]
      exact e7 g x hx
    · have := ln_of hx
      rw [List.length_append] at this
      have this : g < s.2.1.length + 1 := this
      have hj : g = s.2.1.length := by omega
      subst hj
      rw [List.getElem?_append_right (Nat.le_refl _), Nat.sub_self] at hx
      cases hx
      rw [upd_eq rfl, updL_eq rfl]
      exact ⟨rfl, rfl⟩
section CGuest
variable {N : Nat} {h : PH} {c : Nat} {T : List Nat}
theorem c_addGuest (hc : 66 ≤ c) (hl : c + 7 ≤ h.length) {R D E : OD} {n : Nat} (hn : n < 10) (h1 : oi E 1 = Int32.ofNat n) (w : List Nat) (v : Nat) (b i : Bool) : f_X2_addGuest N c (Int64.ofNat (v32 w)) (Int32.ofNat v) (eB b) (eB i) (H3 c h R D E) = some (H3 c h R D (gst E n w v b i)) := by
  have hF : c + 7 ≤ (pt sX3 3 R (pt sX10 1 D h)).length := by rw [pt_len, pt_len]; exact hl
  rw [H3_i hc, H3_i hc]
  generalize pt sX3 3 R (pt sX10 1 D h) = h0 at hF ⊢
  unfold f_X2_addGuest f_X2_addGuest_49 f_X2_addGuest_73 f_X2_addGuest_87 gst
  have n2 : ((10 : Int32) ≤ Int32.ofNat n) = False := nleF (a := 10) (by omega) (by omega) (by omega)
  have s1 := shl1 n (by omega)
  have et : (eB true = 0) = False := eq_false (eBt _ rfl)
  have ef : (eB false = 0) = True := eq_true (eBf _ rfl)
  have ft : (false = true) = False := eq_false (by decide)
  cases b with
  | true =>
    cases i with
    | true => simp (disch := first | (with_reducible assumption) | (simp only [oi_si, oi_sl, oi_sa, oi_sm, oi_sv, oi_sq, ol_si, ol_sl, ol_sa, ol_sm, ol_sv, ol_sq, oa_si, oa_sl, oa_sa, oa_sm, oa_sv, oa_sq, om_si, om_sl, om_sa, om_sm, om_sv, om_sq, ov_si, ov_sl, ov_sa, ov_sm, ov_sv, ov_sq, oq_si, oq_sl, oq_sa, oq_sm, oq_sv, oq_sq, Nat.reduceEqDiff, ↓reduceIte]; done) | omega | (exact ixn (by omega) (by omega)) | (exact ixl (by decide) (by decide)) | (simp only [pt_len, pl, z0, z1, z2, z3, z4, z5, z6, z7, z8, z9, z10, z11, z12]; omega)) only [↓gb_m, ↓gc_m, ↓gl_s, ↓gg_m, gb_s, gc_s, gg_t, gqm_0, gqm_1, pt_pt, sa_sa, sm_sm, si_si, qk2, qg2_0, qs2_0, qg2_1, qs2_1, qg2_2, qs2_2, qg2_3, qs2_3, qg2_4, qs2_4, qg2_5, qg2_6, qg2_7, qg2_8, qg2_9, qg2_10, qg2_11, qs2_11, qa2_5, qe2_5, ql2_5, qa2_6, qe2_6, ql2_6, qa2_7, qe2_7, ql2_7, qa2_8, qe2_8, ql2_8, qa2_9, qe2_9, ql2_9, qa2_10, qe2_10, ql2_10, oi_si, oi_sl, oi_sa, oi_sm, oi_sv, oi_sq, ol_si, ol_sl, ol_sa, ol_sm, ol_sv, ol_sq, oa_si, oa_sl, oa_sa, oa_sm, oa_sv, oa_sq, om_si, om_sl, om_sa, om_sm, om_sv, om_sq, ov_si, ov_sl, ov_sa, ov_sm, ov_sv, ov_sq, oq_si, oq_sl, oq_sa, oq_sm, oq_sv, oq_sq, Nat.reduceEqDiff, ↓reduceIte, n_add, n_addl, n_ladd, n_add1, n_mul, n_lmul, n_mull, n_sub, n_subl, n_subm, n_lt, n_le, n_eq, n_ltl, n_llt, n_lel, n_lle, n_eql, n_leq, n_m1, n_m1l, n_lt0, n_ge0, i_okc, i_okl, if_true, if_false, not_true, not_false, Nat.not_lt_zero, Nat.zero_le, h1, n2, gnar_0, s1, et, ef, ft]
    | false => simp (disch := first | (with_reducible assumption) | (simp only [oi_si, oi_sl, oi_sa, oi_sm, oi_sv, oi_sq, ol_si, ol_sl, ol_sa, ol_sm, ol_sv, ol_sq, oa_si, oa_sl, oa_sa, oa_sm, oa_sv, oa_sq, om_si, om_sl, om_sa, om_sm, om_sv, om_sq, ov_si, ov_sl, ov_sa, ov_sm, ov_sv, ov_sq, oq_si, oq_sl, oq_sa, oq_sm, oq_sv, oq_sq, Nat.reduceEqDiff, ↓reduceIte]; done) | omega | (exact ixn (by omega) (by omega)) | (exact ixl (by decide) (by decide)) | (simp only [pt_len, pl, z0, z1, z2, z3, z4, z5, z6, z7, z8, z9, z10, z11, z12]; omega)) only [↓gb_m, ↓gc_m, ↓gl_s, ↓gg_m, gb_s, gc_s, gg_t, gqm_0, gqm_1, pt_pt, sa_sa, sm_sm, si_si, qk2, qg2_0, qs2_0, qg2_1, qs2_1, qg2_2, qs2_2, qg2_3, qs2_3, qg2_4, qs2_4, qg2_5, qg2_6, qg2_7, qg2_8, qg2_9, qg2_10, qg2_11, qs2_11, qa2_5, qe2_5, ql2_5, qa2_6, qe2_6, ql2_6, qa2_7, qe2_7, ql2_7, qa2_8, qe2_8, ql2_8, qa2_9, qe2_9, ql2_9, qa2_10, qe2_10, ql2_10, oi_si, oi_sl, oi_sa, oi_sm, oi_sv, oi_sq, ol_si, ol_sl, ol_sa, ol_sm, ol_sv, ol_sq, oa_si, oa_sl, oa_sa, oa_sm, oa_sv, oa_sq, om_si, om_sl, om_sa, om_sm, om_sv, om_sq, ov_si, ov_sl, ov_sa, ov_sm, ov_sv, ov_sq, oq_si, oq_sl, oq_sa, oq_sm, oq_sv, oq_sq, Nat.reduceEqDiff, ↓reduceIte, n_add, n_addl, n_ladd, n_add1, n_mul, n_lmul, n_mull, n_sub, n_subl, n_subm, n_lt, n_le, n_eq, n_ltl, n_llt, n_lel, n_lle, n_eql, n_leq, n_m1, n_m1l, n_lt0, n_ge0, i_okc, i_okl, if_true, if_false, not_true, not_false, Nat.not_lt_zero, Nat.zero_le, h1, n2, gnar_0, s1, et, ef, ft]
  | false =>
    cases i with
    | true => simp (disch := first | (with_reducible assumption) | (simp only [oi_si, oi_sl, oi_sa, oi_sm, oi_sv, oi_sq, ol_si, ol_sl, ol_sa, ol_sm, ol_sv, ol_sq, oa_si, oa_sl, oa_sa, oa_sm, oa_sv, oa_sq, om_si, om_sl, om_sa, om_sm, om_sv, om_sq, ov_si, ov_sl, ov_sa, ov_sm, ov_sv, ov_sq, oq_si, oq_sl, oq_sa, oq_sm, oq_sv, oq_sq, Nat.reduceEqDiff, ↓reduceIte]; done) | omega | (exact ixn (by omega) (by omega)) | (exact ixl (by decide) (by decide)) | (simp only [pt_len, pl, z0, z1, z2, z3, z4, z5, z6, z7, z8, z9, z10, z11, z12]; omega)) only [↓gb_m, ↓gc_m, ↓gl_s, ↓gg_m, gb_s, gc_s, gg_t, gqm_0, gqm_1, pt_pt, sa_sa, sm_sm, si_si, qk2, qg2_0, qs2_0, qg2_1, qs2_1, qg2_2, qs2_2, qg2_3, qs2_3, qg2_4, qs2_4, qg2_5, qg2_6, qg2_7, qg2_8, qg2_9, qg2_10, qg2_11, qs2_11, qa2_5, qe2_5, ql2_5, qa2_6, qe2_6, ql2_6, qa2_7, qe2_7, ql2_7, qa2_8, qe2_8, ql2_8, qa2_9, qe2_9, ql2_9, qa2_10, qe2_10, ql2_10, oi_si, oi_sl, oi_sa, oi_sm, oi_sv, oi_sq, ol_si, ol_sl, ol_sa, ol_sm, ol_sv, ol_sq, oa_si, oa_sl, oa_sa, oa_sm, oa_sv, oa_sq, om_si, om_sl, om_sa, om_sm, om_sv, om_sq, ov_si, ov_sl, ov_sa, ov_sm, ov_sv, ov_sq, oq_si, oq_sl, oq_sa, oq_sm, oq_sv, oq_sq, Nat.reduceEqDiff, ↓reduceIte, n_add, n_addl, n_ladd, n_add1, n_mul, n_lmul, n_mull, n_sub, n_subl, n_subm, n_lt, n_le, n_eq, n_ltl, n_llt, n_lel, n_lle, n_eql, n_leq, n_m1, n_m1l, n_lt0, n_ge0, i_okc, i_okl, if_true, if_false, not_true, not_false, Nat.not_lt_zero, Nat.zero_le, h1, n2, gnar_0, s1, et, ef, ft]
    | false => simp (disch := first | (with_reducible assumption) | (simp only [oi_si, oi_sl, oi_sa, oi_sm, oi_sv, oi_sq, ol_si, ol_sl, ol_sa, ol_sm, ol_sv, ol_sq, oa_si, oa_sl, oa_sa, oa_sm, oa_sv, oa_sq, om_si, om_sl, om_sa, om_sm, om_sv, om_sq, ov_si, ov_sl, ov_sa, ov_sm, ov_sv, ov_sq, oq_si, oq_sl, oq_sa, oq_sm, oq_sv, oq_sq, Nat.reduceEqDiff, ↓reduceIte]; done) | omega | (exact ixn (by omega) (by omega)) | (exact ixl (by decide) (by decide)) | (simp only [pt_len, pl, z0, z1, z2, z3, z4, z5, z6, z7, z8, z9, z10, z11, z12]; omega)) only [↓gb_m, ↓gc_m, ↓gl_s, ↓gg_m, gb_s, gc_s, gg_t, gqm_0, gqm_1, pt_pt, sa_sa, sm_sm, si_si, qk2, qg2_0, qs2_0, qg2_1, qs2_1, qg2_2, qs2_2, qg2_3, qs2_3, qg2_4, qs2_4, qg2_5, qg2_6, qg2_7, qg2_8, qg2_9, qg2_10, qg2_11, qs2_11, qa2_5, qe2_5, ql2_5, qa2_6, qe2_6, ql2_6, qa2_7, qe2_7, ql2_7, qa2_8, qe2_8, ql2_8, qa2_9, qe2_9, ql2_9, qa2_10, qe2_10, ql2_10, oi_si, oi_sl, oi_sa, oi_sm, oi_sv, oi_sq, ol_si, ol_sl, ol_sa, ol_sm, ol_sv, ol_sq, oa_si, oa_sl, oa_sa, oa_sm, oa_sv, oa_sq, om_si, om_sl, om_sa, om_sm, om_sv, om_sq, ov_si, ov_sl, ov_sa, ov_sm, ov_sv, ov_sq, oq_si, oq_sl, oq_sa, oq_sm, oq_sv, oq_sq, Nat.reduceEqDiff, ↓reduceIte, n_add, n_addl, n_ladd, n_add1, n_mul, n_lmul, n_mull, n_sub, n_subl, n_subm, n_lt, n_le, n_eq, n_ltl, n_llt, n_lel, n_lle, n_eql, n_leq, n_m1, n_m1l, n_lt0, n_ge0, i_okc, i_okl, if_true, if_false, not_true, not_false, Nat.not_lt_zero, Nat.zero_le, h1, n2, gnar_0, s1, et, ef, ft]
theorem c_isKept (hc : 66 ≤ c) (hl : c + 7 ≤ h.length) (hN : 2000 ≤ N) (hT : TOk T) {R D E : OD} (hR : RR c R) {ts : List Tok} (q : CK T ts D) (hw : (hd ts).1 = 1) : f_X3_isKept N 3 (H3 c h R D E) = some (eB (isRes (hd ts).2.2), H3 c h R D E) := by
  obtain ⟨a1, a2, a3⟩ := H3_at (h := h) (R := R) (D := D) (E := E) hc hl
  have ga : gfR 3 0 3 (H3 c h R D E) = some 1 := a1.gV (k := 0) rfl rfl hR.1
  have gis : gIs 10 1 (H3 c h R D E) = true := a2.is rfl
  have w : ∀ k, k < 14 → f_X10_isWord N 1 k (H3 c h R D E) = some (eB (decide ((hd ts).2.2 = wdL.getD k [])), H3 c h R D E) := by
    intro k hk
    rw [r_word (N := N) (h := h) (R := R) (E := E) hc hl hN hT q hk]
    unfold isWd
    rw [decide_eq_true hw, Bool.true_and]
  rw [← rsv_9]
  have rs : ∀ k, k < 9 → (hd ts).2.2 = wdL.getD k [] → rsv (hd ts).2.2 9 = true := by
    intro k hk z
    rw [z]
    exact (by decide : ∀ k, k < 9 → rsv (wdL.getD k []) 9 = true) k hk
  unfold f_X3_isKept f_X3_isKept_108 f_X3_isKept_113
  by_cases z0 : (hd ts).2.2 = wdL.getD 0 []
  · rw [ga, gb_s, gis, gg_t, w 0 (by decide), gc_s, decide_eq_true z0, if_neg (eBt _ rfl), gzb1, gg_t, rs 0 (by decide) z0]; rfl
  rw [ga, gb_s, gis, gg_t, w 0 (by decide), gc_s, decide_eq_false z0, if_pos (eBf _ rfl)]
  by_cases z1 : (hd ts).2.2 = wdL.getD 1 []
  · rw [ga, gb_s, gis, gg_t, w 1 (by decide), gc_s, decide_eq_true z1, if_neg (eBt _ rfl), gzb1, gg_t, rs 1 (by decide) z1]; rfl
  rw [ga, gb_s, gis, gg_t, w 1 (by decide), gc_s, decide_eq_false z1, if_pos (eBf _ rfl)]
  by_cases z2 : (hd ts).2.2 = wdL.getD 2 []
  · rw [ga, gb_s, gis, gg_t, w 2 (by decide), gc_s, decide_eq_true z2, if_neg (eBt _ rfl), gzb1, gg_t, rs 2 (by decide) z2]; rfl
  rw [ga, gb_s, gis, gg_t, w 2 (by decide), gc_s, decide_eq_false z2, if_pos (eBf _ rfl)]
  by_cases z3 : (hd ts).2.2 = wdL.getD 3 []
  · rw [ga, gb_s, gis, gg_t, w 3 (by decide), gc_s, decide_eq_true z3, if_neg (eBt _ rfl), gzb1, gg_t, rs 3 (by decide) z3]; rfl
  rw [ga, gb_s, gis, gg_t, w 3 (by decide), gc_s, decide_eq_false z3, if_pos (eBf _ rfl)]
  by_cases z4 : (hd ts).2.2 = wdL.getD 4 []
  · rw [ga, gb_s, gis, gg_t, w 4 (by decide), gc_s, decide_eq_true z4, if_neg (eBt _ rfl), gzb1, gg_t, rs 4 (by decide) z4]; rfl
  rw [ga, gb_s, gis, gg_t, w 4 (by decide), gc_s, decide_eq_false z4, if_pos (eBf _ rfl)]
  by_cases z5 : (hd ts).2.2 = wdL.getD 5 []
  · rw [ga, gb_s, gis, gg_t, w 5 (by decide), gc_s, decide_eq_true z5, if_neg (eBt _ rfl), gzb1, gg_t, rs 5 (by decide) z5]; rfl
  rw [ga, gb_s, gis, gg_t, w 5 (by decide), gc_s, decide_eq_false z5, if_pos (eBf _ rfl)]
  by_cases z6 : (hd ts).2.2 = wdL.getD 6 []
  · rw [ga, gb_s, gis, gg_t, w 6 (by decide), gc_s, decide_eq_true z6, if_neg (eBt _ rfl), gzb1, gg_t, rs 6 (by decide) z6]; rfl
  rw [ga, gb_s, gis, gg_t, w 6 (by decide), gc_s, decide_eq_false z6, if_pos (eBf _ rfl)]
  by_cases z7 : (hd ts).2.2 = wdL.getD 7 []
  · rw [ga, gb_s, gis, gg_t, w 7 (by decide), gc_s, decide_eq_true z7, if_neg (eBt _ rfl), gzb1, gg_t, rs 7 (by decide) z7]; rfl
  rw [ga, gb_s, gis, gg_t, w 7 (by decide), gc_s, decide_eq_false z7, if_pos (eBf _ rfl)]
  by_cases z8 : (hd ts).2.2 = wdL.getD 8 []
  · rw [ga, gb_s, gis, gg_t, w 8 (by decide), gc_s, decide_eq_true z8, if_neg (eBt _ rfl), gzb1, gg_t, rs 8 (by decide) z8]; rfl
  rw [ga, gb_s, gis, gg_t, w 8 (by decide), gc_s, decide_eq_false z8, if_pos (eBf _ rfl), gzb0, gg_t]
  have : rsv (hd ts).2.2 9 = false := by
    unfold rsv rsv rsv rsv rsv rsv rsv rsv rsv rsv
    rw [decide_eq_false z0, decide_eq_false z1, decide_eq_false z2, decide_eq_false z3, decide_eq_false z4, decide_eq_false z5, decide_eq_false z6, decide_eq_false z7, decide_eq_false z8]
    rfl
  rw [this]
  rfl
theorem c_hasName (hc : 66 ≤ c) (hl : c + 7 ≤ h.length) (hN : 2000 ≤ N) {R D E : OD} {s : PS} (hD : CDr s E) (hs : PSk s) {w : List Nat} (hw : w.length ≤ 8) (hw2 : ∀ x, x ∈ w → 97 ≤ x ∧ x ≤ 122) : f_X2_hasName N c (Int64.ofNat (v32 w)) (H3 c h R D E) = some (eB ((s.2.1.map (·.1)).contains w), H3 c h R D E) := by
  obtain ⟨a1, a2, a3⟩ := H3_at (h := h) (R := R) (D := D) (E := E) hc hl
  have gl10 := hs.2.1
  have lp : ∀ n k m, k + n = s.2.1.length → n < m → (∀ (j : Nat) x, j < k → s.2.1[j]? = some x → x.1 ≠ w) → gi (fun zk zs => f_X2_hasName_2 N zk zs.1 zs.2.1 zs.2.2.1 zs.2.2.2) m (c, Int64.ofNat (v32 w), Int32.ofNat k, H3 c h R D E) = some (eB ((s.2.1.map (·.1)).contains w), H3 c h R D E) := by
    intro n
    induction n with
    | zero =>
      intro k m hk hm hj
      have no : (s.2.1.map (·.1)).contains w = false := by
        cases z : (s.2.1.map (·.1)).contains w with
        | false => rfl
        | true =>
          rw [List.contains_iff_mem, List.mem_map] at z
          obtain ⟨x, x1, x2⟩ := z
          obtain ⟨j, j1⟩ := List.mem_iff_getElem?.mp x1
          exact absurd x2 (hj j x (by have := ln_of j1; omega) j1)
      obtain ⟨m, rfl⟩ : ∃ k, m = k + 1 := ⟨m - 1, by omega⟩
      rw [gi_1]
      generalize hz : gi _ m = zk
      dsimp only
      unfold f_X2_hasName_2
      have n1 : (Int32.ofNat s.2.1.length ≤ Int32.ofNat k) = True := nleT (by omega) (by omega) (by omega)
      rw [a3.gI (k := 1) rfl rfl, gb_s, hD.2.1, if_pos (of_eq_true n1), gzb0, gg_t, no]
      rfl
    | succ n ih =>
      intro k m hk hm hj
      obtain ⟨x, hx⟩ : ∃ x, s.2.1[k]? = some x := ⟨_, List.getElem?_eq_getElem (by omega)⟩
      have xk := hs.2.2.2.2.1 x (List.mem_of_getElem? hx)
      have ce := cmp_eq (v32_le xk.2.1 xk.2.2) (v32_le hw hw2)
      have n1 : (Int32.ofNat s.2.1.length ≤ Int32.ofNat k) = False := nleF (by omega) (by omega) (by omega)
      have ih2 := ih (k + 1) (m - 1) (by omega) (by omega)
      obtain ⟨m, rfl⟩ : ∃ k, m = k + 1 := ⟨m - 1, by omega⟩
      rw [gi_1]
      generalize hz : gi _ m = zk
      dsimp only
      rw [show m + 1 - 1 = m by omega, hz] at ih2
      unfold f_X2_hasName_2
      rw [a3.gI (k := 1) rfl rfl, gb_s, hD.2.1, if_neg (of_eq_false n1), a3.gR (k := 8) rfl rfl, gb_s, a3.aL (j := 3) rfl (ixn (by omega) (by omega)), gb_s, i_okc (by omega), (hD.2.2.2.2.2.2.1 k x hx).2]
      by_cases z : x.1 = w
      · have c0 : lg_cmp (Int64.ofNat (v32 x.1)) (Int64.ofNat (v32 w)) = 0 := by rw [ce, z]
        have yes : (s.2.1.map (·.1)).contains w = true := by
          rw [List.contains_iff_mem, List.mem_map]
          exact ⟨x, List.mem_of_getElem? hx, z⟩
        rw [if_pos c0, gzb1, gg_t, yes]
        rfl
      · have c0 : ¬ lg_cmp (Int64.ofNat (v32 x.1)) (Int64.ofNat (v32 w)) = 0 := by
          rw [ce]
          exact fun y => z (v32_inj _ _ _ (Nat.le_refl _) xk.2.2 hw2 y)
        rw [if_neg c0, gl_s, n_add1]
        refine ih2 (fun j y hj2 hy => ?_)
        rcases Nat.lt_or_ge j k with u | u
        · exact hj j y u hy
        · have : j = k := by omega
          subst this
          rw [hx] at hy
          cases hy
          exact z
  exact lp s.2.1.length 0 N (by omega) (by omega) (fun j x hj => by omega)
end CGuest

