/-! The component reads: rooms and rules into the draft -/
theorem v32_lt : ∀ (w : List Nat) (v n : Nat), v < 32 ^ n → (∀ c, c ∈ w → 97 ≤ c ∧ c ≤ 122) → w.foldl (fun v c => 32 * v + (c - 96)) v < 32 ^ (n + w.length) := by
  intro w
  induction w with
  | nil => intro v n h _; exact h
  | cons c w ih =>
    intro v n h hc
    have h1 := hc c (List.mem_cons_self ..)
    rw [List.foldl_cons, List.length_cons, show n + (w.length + 1) = n + 1 + w.length by omega]
    refine ih _ _ ?_ (fun x hx => hc x (List.mem_cons_of_mem _ hx))
    rw [Nat.pow_succ]
    omega
theorem v32_le {w : List Nat} (hl : w.length ≤ 8) (hc : ∀ c, c ∈ w → 97 ≤ c ∧ c ≤ 122) : v32 w < 9223372036854775808 := by
  have h2 := v32_lt w 0 0 (by decide) hc
  exact Nat.lt_of_lt_of_le h2 (Nat.le_trans (Nat.pow_le_pow_right (n := 32) (by omega) (j := 8) (by omega)) (by decide))
theorem v32_app (a : List Nat) (x : Nat) : v32 (a ++ [x]) = 32 * v32 a + (x - 96) := by
  unfold v32
  rw [List.foldl_append]
  rfl
theorem v32_inj : ∀ (n : Nat) (a b : List Nat), a.length ≤ n → (∀ c, c ∈ a → 97 ≤ c ∧ c ≤ 122) → (∀ c, c ∈ b → 97 ≤ c ∧ c ≤ 122) → v32 a = v32 b → a = b := by
  have nz : ∀ (b : List Nat) (y : Nat), 97 ≤ y → v32 (b ++ [y]) ≠ 0 := by
    intro b y hy
    rw [v32_app]
    omega
  intro n
  induction n with
  | zero =>
    intro a b ha h1 h2 hv
    have : a = [] := List.eq_nil_of_length_eq_zero (by omega)
    subst this
    rcases List.eq_nil_or_concat b with z | ⟨b', y, z⟩
    · exact z.symm
    · rw [List.concat_eq_append] at z
      subst z
      exact absurd hv.symm (nz b' y (h2 y (by simp)).1)
  | succ n ih =>
    intro a b ha h1 h2 hv
    rcases List.eq_nil_or_concat a with z | ⟨a', x, z⟩
    · subst z
      rcases List.eq_nil_or_concat b with z | ⟨b', y, z⟩
      · exact z.symm
      · rw [List.concat_eq_append] at z
        subst z
        exact absurd hv.symm (nz b' y (h2 y (by simp)).1)
    · rw [List.concat_eq_append] at z
      subst z
      rcases List.eq_nil_or_concat b with z | ⟨b', y, z⟩
      · subst z
        exact absurd hv (nz a' x (h1 x (by simp)).1)
      · rw [List.concat_eq_append] at z
        subst z
        rw [v32_app, v32_app] at hv
        have hx := h1 x (by simp)
        have hy := h2 y (by simp)
        have e1 : x = y := by omega
        have e2 : v32 a' = v32 b' := by omega
        rw [e1, ih a' b' (by rw [List.length_append] at ha; simp at ha; omega) (fun c hc => h1 c (List.mem_append_left _ hc)) (fun c hc => h2 c (List.mem_append_left _ hc)) e2]
/-- the draft holds s -/
def CDr (s : PS) (E : OD) : Prop := oi E 0 = Int32.ofNat s.1.length ∧ oi E 1 = Int32.ofNat s.2.1.length ∧ oi E 2 = Int32.ofNat s.2.2.length ∧ oi E 3 = Int32.ofNat (msk (fun g => (s.2.1.getD g ([], 0, false, false)).2.2.1) s.2.1.length) ∧ oi E 4 = Int32.ofNat (msk (fun g => (s.2.1.getD g ([], 0, false, false)).2.2.2) s.2.1.length) ∧ (∀ (r : Nat) (x : Nat × Nat), s.1[r]? = some x → oa E 5 r = Int32.ofNat x.1 ∧ oa E 6 r = Int32.ofNat x.2) ∧ (∀ (g : Nat) (x : List Nat × Nat × Bool × Bool), s.2.1[g]? = some x → oa E 7 g = Int32.ofNat x.2.1 ∧ om E 8 g = Int64.ofNat (v32 x.1)) ∧ CCo s.2.2.flatten E ∧ ∀ k, k ≤ s.2.2.length → oa E 10 k = Int32.ofNat (s.2.2.take k).flatten.length
/-- what the reading of a line does -/
def LOc (c : Nat) (h : PH) (T : List Nat) (F : PH → Option (Int32 × PH)) (R D E : OD) (res : Sum Nat (PS × List Tok)) : Prop := ∃ v R' D' E', F (H3 c h R D E) = some (v, H3 c h R' D' E') ∧ RR c R' ∧ oa E' 10 0 = 0 ∧ match res with
  | .inl f => v = 0 ∧ oi R' 2 = Int32.ofNat f
  | .inr x => v = 1 ∧ CK T x.2 D' ∧ CDr x.1 E'
theorem CDr.z {s : PS} {E : OD} (q : CDr s E) : oa E 10 0 = 0 := q.2.2.2.2.2.2.2.2 0 (Nat.zero_le _)
section CRoom
variable {N : Nat} {h : PH} {c : Nat} {T : List Nat}
theorem c_readRoom (hc : 66 ≤ c) (hl : c + 7 ≤ h.length) (hN : 2000 ≤ N) (hT : TOk T) {R D E : OD} (hR : RR c R) {ts : List Tok} (q : CK T ts D) {s : PS} (hD : CDr s E) (hs : PSk s) (hk : (hd ts).1 ≠ 0) : LOc c h T (f_X3_readRoom N 3) R D E (pRoom s ts) := by
  obtain ⟨a1, a2, a3⟩ := H3_at (h := h) (R := R) (D := D) (E := E) hc hl
  have sl := hs.1
  unfold LOc f_X3_readRoom pRoom
  rw [a1.gV (k := 1) rfl rfl hR.2, gb_s, a3.gI (k := 0) rfl rfl, gb_s, hD.1]
  by_cases z : s.1.length = 10
  · have n1 : Int32.ofNat s.1.length = 10 := by rw [z]; rfl
    rw [if_pos n1, if_pos z, a1.is rfl, gg_t, r_wrong hc hl hR q (k := 5) (kI := 5) rfl, gc_s, gzb0, gg_t]
    exact ⟨0, _, D, E, rfl, hR.si _, hD.z, rfl, by rw [oi_si, if_pos rfl]⟩
  · have n1 : ¬ Int32.ofNat s.1.length = 10 := of_eq_false (neqF (b := 10) z (by omega) (by omega))
    obtain ⟨D1, b1, b2⟩ := r_adv (N := N) (h := h) (R := R) (E := E) hc hl hN hT q hk
    obtain ⟨v, R2, D2, c1, c2, c3⟩ := r_num (N := N) (h := h) (E := E) hc hl hN hT hR b2 (m := 9) (mI := 9) rfl (by omega)
    rw [if_neg n1, if_neg z, a1.gV (k := 0) rfl rfl hR.1, gb_s, a2.is rfl, gg_t, b1, gb_s, (H3_at hc hl).1.is rfl, gg_t, c1, gc_s]
    have m1 : ∀ n, n < 1000 → ¬ Int32.ofNat n = -1 := by
      intro n hn z
      have := congrArg Int32.toInt z
      rw [i_ok (by omega)] at this
      have t : (-1 : Int32).toInt = -1 := by decide
      rw [t] at this
      omega
    cases h1 : pNum 9 ts.tail with
    | inl f =>
      rw [h1] at c3
      dsimp only at c3
      obtain ⟨rfl, c4⟩ := c3
      rw [if_pos rfl, gzb0, gg_t]
      exact ⟨0, R2, D2, E, rfl, c2, hD.z, rfl, c4⟩
    | inr x =>
      rw [h1] at c3
      dsimp only at c3
      obtain ⟨rfl, c4, c5⟩ := c3
      obtain ⟨v, R3, D3, d1, d2, d3⟩ := r_num (N := N) (h := h) (E := E) hc hl hN hT c2 c5 (m := 1) (mI := 1) rfl (by omega)
      rw [if_neg (m1 x.1 (by omega)), (H3_at hc hl).1.is rfl, gg_t, d1, gc_s]
      dsimp only
      cases h2 : pNum 1 x.2 with
      | inl f =>
        rw [h2] at d3
        dsimp only at d3
        obtain ⟨rfl, d4⟩ := d3
        rw [if_pos rfl, gzb0, gg_t]
        exact ⟨0, R3, D3, E, rfl, d2, hD.z, rfl, d4⟩
      | inr y =>
        rw [h2] at d3
        dsimp only at d3
        obtain ⟨rfl, d4, d5⟩ := d3
        have y3 := H3_at (h := h) (R := R3) (D := D3) (E := E) hc hl
        have ad : f_X2_addRoom N c (Int32.ofNat x.1) (Int32.ofNat y.1) (H3 c h R3 D3 E) = some (H3 c h R3 D3 (si (sa (sa E 5 (upd (oa E 5) s.1.length (Int32.ofNat x.1))) 6 (upd (oa E 6) s.1.length (Int32.ofNat y.1))) 0 (Int32.ofNat (s.1.length + 1)))) := by
          have hF : c + 7 ≤ (pt sX3 3 R3 (pt sX10 1 D3 h)).length := by rw [pt_len, pt_len]; exact hl
          rw [H3_i hc, H3_i hc]
          generalize pt sX3 3 R3 (pt sX10 1 D3 h) = h0 at hF ⊢
          unfold f_X2_addRoom f_X2_addRoom_39
          have n2 : ((10 : Int32) ≤ Int32.ofNat s.1.length) = False := nleF (a := 10) (by omega) (by omega) (by omega)
          simp (disch := first | (with_reducible assumption) | (simp only [oi_si, oi_sl, oi_sa, oi_sm, oi_sv, oi_sq, ol_si, ol_sl, ol_sa, ol_sm, ol_sv, ol_sq, oa_si, oa_sl, oa_sa, oa_sm, oa_sv, oa_sq, om_si, om_sl, om_sa, om_sm, om_sv, om_sq, ov_si, ov_sl, ov_sa, ov_sm, ov_sv, ov_sq, oq_si, oq_sl, oq_sa, oq_sm, oq_sv, oq_sq, Nat.reduceEqDiff, ↓reduceIte]; done) | omega | (exact ixn (by omega) (by omega)) | (exact ixl (by decide) (by decide)) | (simp only [pt_len, pl, z0, z1, z2, z3, z4, z5, z6, z7, z8, z9, z10, z11, z12]; omega)) only [↓gb_m, ↓gc_m, ↓gl_s, ↓gg_m, gb_s, gc_s, gg_t, gqm_0, gqm_1, pt_pt, sa_sa, sm_sm, si_si, qk2, qg2_0, qs2_0, qg2_1, qs2_1, qg2_2, qs2_2, qg2_3, qs2_3, qg2_4, qs2_4, qg2_5, qg2_6, qg2_7, qg2_8, qg2_9, qg2_10, qg2_11, qs2_11, qa2_5, qe2_5, ql2_5, qa2_6, qe2_6, ql2_6, qa2_7, qe2_7, ql2_7, qa2_8, qe2_8, ql2_8, qa2_9, qe2_9, ql2_9, qa2_10, qe2_10, ql2_10, oi_si, oi_sl, oi_sa, oi_sm, oi_sv, oi_sq, ol_si, ol_sl, ol_sa, ol_sm, ol_sv, ol_sq, oa_si, oa_sl, oa_sa, oa_sm, oa_sv, oa_sq, om_si, om_sl, om_sa, om_sm, om_sv, om_sq, ov_si, ov_sl, ov_sa, ov_sm, ov_sv, ov_sq, oq_si, oq_sl, oq_sa, oq_sm, oq_sv, oq_sq, Nat.reduceEqDiff, ↓reduceIte, n_add, n_addl, n_ladd, n_add1, n_mul, n_lmul, n_mull, n_sub, n_subl, n_subm, n_lt, n_le, n_eq, n_ltl, n_llt, n_lel, n_lle, n_eql, n_leq, n_m1, n_m1l, n_lt0, n_ge0, i_okc, i_okl, if_true, if_false, not_true, not_false, Nat.not_lt_zero, Nat.zero_le, hD.1, n2, gnar_0]
        rw [if_neg (m1 y.1 (by omega)), y3.1.gV (k := 1) rfl rfl d2.2, gb_s, y3.2.2.is rfl, gg_t, ad, gb_s, gzb1, gg_t]
        obtain ⟨e1, e2, e3, e4, e5, e6, e7, e8, e9⟩ := hD
        refine ⟨1, R3, D3, _, rfl, d2, e9 0 (Nat.zero_le _), rfl, d5, ?_, e2, e3, e4, e5, ?_, e7, e8, e9⟩
        · rw [oi_si, if_pos rfl, List.length_append]
          rfl
        · intro r w hw
          rw [oa_si, oa_si, oa_sa, oa_sa, oa_sa, if_neg (by decide), if_pos rfl, if_pos rfl]
          rcases Nat.lt_or_ge r s.1.length with u | u
          · rw [List.getElem?_append_left u] at hw
            rw [upd_ne (by omega), upd_ne (by omega)]
            exact e6 r w hw
          · have := ln_of hw
            rw [List.length_append] at this
            have this : r < s.1.length + 1 := this
            have hj : r = s.1.length := by omega
            subst hj
            rw [List.getElem?_append_right (Nat.le_refl _), Nat.sub_self] at hw
            cases hw
            rw [upd_eq rfl, upd_eq rfl]
            exact ⟨rfl, rfl⟩
theorem CDr.kp {s : PS} {E E' : OD} (q : CDr s E) (hk : Keep [9, 11] E E') : oi E' 0 = Int32.ofNat s.1.length ∧ oi E' 1 = Int32.ofNat s.2.1.length ∧ oi E' 2 = Int32.ofNat s.2.2.length ∧ oi E' 3 = oi E 3 ∧ oi E' 4 = oi E 4 ∧ oa E' 5 = oa E 5 ∧ oa E' 6 = oa E 6 ∧ oa E' 7 = oa E 7 ∧ om E' 8 = om E 8 ∧ oa E' 10 = oa E 10 := by
  rw [hk.i (k := 0) (by decide), hk.i (k := 1) (by decide), hk.i (k := 2) (by decide), hk.i (k := 3) (by decide), hk.i (k := 4) (by decide), hk.a (k := 5) (by decide), hk.a (k := 6) (by decide), hk.a (k := 7) (by decide), hk.m (k := 8) (by decide), hk.a (k := 10) (by decide)]
  exact ⟨q.1, q.2.1, q.2.2.1, rfl, rfl, rfl, rfl, rfl, rfl, rfl⟩
theorem c_readRule (hc : 66 ≤ c) (hl : c + 7 ≤ h.length) (hN : 2000 ≤ N) (hT : TOk T) {R D E : OD} (hR : RR c R) {ts : List Tok} (q : CK T ts D) {s : PS} (hD : CDr s E) (hs : PSk s) (hk : (hd ts).1 ≠ 0) (hb : s.2.2.flatten.length + ts.length ≤ 1001) : LOc c h T (f_X3_readRule N 3) R D E (pRule s ts) := by
  obtain ⟨a1, a2, a3⟩ := H3_at (h := h) (R := R) (D := D) (E := E) hc hl
  have sl := hs.2.2.1
  unfold LOc f_X3_readRule pRule
  rw [a1.gV (k := 1) rfl rfl hR.2, gb_s, a3.gI (k := 2) rfl rfl, gb_s, hD.2.2.1]
  by_cases z : s.2.2.length = 4
  · have n1 : Int32.ofNat s.2.2.length = 4 := by rw [z]; rfl
    rw [if_pos n1, if_pos z, a1.is rfl, gg_t, r_wrong hc hl hR q (k := 5) (kI := 5) rfl, gc_s, gzb0, gg_t]
    exact ⟨0, _, D, E, rfl, hR.si _, hD.z, rfl, by rw [oi_si, if_pos rfl]⟩
  · have n1 : ¬ Int32.ofNat s.2.2.length = 4 := of_eq_false (neqF (b := 4) z (by omega) (by omega))
    obtain ⟨D1, b1, b2⟩ := r_adv (N := N) (h := h) (R := R) (E := E) hc hl hN hT q hk
    have l1 := (Suf.tl q.2.1 hk).len
    obtain ⟨v, R2, D2, E2, c1, c2, c3, c4⟩ := c_ruleR (N := N) (h := h) (T := T) hc hl hN hT ts.tail R D1 E s.2.2.flatten b2 hR hD.2.2.2.2.2.2.2.1 (by omega)
    rw [if_neg n1, if_neg z, a1.gV (k := 0) rfl rfl hR.1, gb_s, a2.is rfl, gg_t, b1, gb_s, (H3_at hc hl).1.is rfl, gg_t, c1, gc_s]
    obtain ⟨k0, k1, k2, k3, k4, k5, k6, k7, k8, k10⟩ := hD.kp c3
    cases h1 : pAll (pPart 5) ts.tail with
    | inl f =>
      rw [h1] at c4
      dsimp only at c4
      obtain ⟨rfl, c5⟩ := c4
      rw [if_pos rfl, gzb0, gg_t]
      exact ⟨0, R2, D2, E2, rfl, c2, by rw [k10]; exact hD.z, rfl, c5⟩
    | inr x =>
      rw [h1] at c4
      dsimp only at c4
      obtain ⟨rfl, c5, c6⟩ := c4
      have t10 : ¬ (1 : Int32) = 0 := by decide
      have y3 := H3_at (h := h) (R := R2) (D := D2) (E := E2) hc hl
      have ad : f_X2_endRule N c (H3 c h R2 D2 E2) = some (H3 c h R2 D2 (sa (si E2 2 (Int32.ofNat (s.2.2.length + 1))) 10 (upd (oa E2 10) (s.2.2.length + 1) (Int32.ofNat (s.2.2.flatten ++ x.1).length)))) := by
        have hF : c + 7 ≤ (pt sX3 3 R2 (pt sX10 1 D2 h)).length := by rw [pt_len, pt_len]; exact hl
        rw [H3_i hc, H3_i hc]
        generalize pt sX3 3 R2 (pt sX10 1 D2 h) = h0 at hF ⊢
        unfold f_X2_endRule f_X2_endRule_31
        have n2 : ((4 : Int32) ≤ Int32.ofNat s.2.2.length) = False := nleF (a := 4) (by omega) (by omega) (by omega)
        simp (disch := first | (with_reducible assumption) | (simp only [oi_si, oi_sl, oi_sa, oi_sm, oi_sv, oi_sq, ol_si, ol_sl, ol_sa, ol_sm, ol_sv, ol_sq, oa_si, oa_sl, oa_sa, oa_sm, oa_sv, oa_sq, om_si, om_sl, om_sa, om_sm, om_sv, om_sq, ov_si, ov_sl, ov_sa, ov_sm, ov_sv, ov_sq, oq_si, oq_sl, oq_sa, oq_sm, oq_sv, oq_sq, Nat.reduceEqDiff, ↓reduceIte]; done) | omega | (exact ixn (by omega) (by omega)) | (exact ixl (by decide) (by decide)) | (simp only [pt_len, pl, z0, z1, z2, z3, z4, z5, z6, z7, z8, z9, z10, z11, z12]; omega)) only [↓gb_m, ↓gc_m, ↓gl_s, ↓gg_m, gb_s, gc_s, gg_t, gqm_0, gqm_1, pt_pt, sa_sa, sm_sm, si_si, qk2, qg2_0, qs2_0, qg2_1, qs2_1, qg2_2, qs2_2, qg2_3, qs2_3, qg2_4, qs2_4, qg2_5, qg2_6, qg2_7, qg2_8, qg2_9, qg2_10, qg2_11, qs2_11, qa2_5, qe2_5, ql2_5, qa2_6, qe2_6, ql2_6, qa2_7, qe2_7, ql2_7, qa2_8, qe2_8, ql2_8, qa2_9, qe2_9, ql2_9, qa2_10, qe2_10, ql2_10, oi_si, oi_sl, oi_sa, oi_sm, oi_sv, oi_sq, ol_si, ol_sl, ol_sa, ol_sm, ol_sv, ol_sq, oa_si, oa_sl, oa_sa, oa_sm, oa_sv, oa_sq, om_si, om_sl, om_sa, om_sm, om_sv, om_sq, ov_si, ov_sl, ov_sa, ov_sm, ov_sv, ov_sq, oq_si, oq_sl, oq_sa, oq_sm, oq_sv, oq_sq, Nat.reduceEqDiff, ↓reduceIte, n_add, n_addl, n_ladd, n_add1, n_mul, n_lmul, n_mull, n_sub, n_subl, n_subm, n_lt, n_le, n_eq, n_ltl, n_llt, n_lel, n_lle, n_eql, n_leq, n_m1, n_m1l, n_lt0, n_ge0, i_okc, i_okl, if_true, if_false, not_true, not_false, Nat.not_lt_zero, Nat.zero_le, k2, c6.1, n2, gnar_0]
      rw [if_neg t10, y3.1.gV (k := 1) rfl rfl c2.2, gb_s, y3.2.2.is rfl, gg_t, ad, gb_s, gzb1, gg_t]
      obtain ⟨e1, e2, e3, e4, e5, e6, e7, e8, e9⟩ := hD
      have fl : (s.2.2 ++ [x.1]).flatten = s.2.2.flatten ++ x.1 := by simp
      refine ⟨1, R2, D2, _, rfl, c2, ?_, rfl, c5, ?_⟩
      · rw [oa_sa, if_pos rfl, upd_ne (by omega), k10]
        exact e9 0 (Nat.zero_le _)
      · refine ⟨k0, k1, ?_, k3.trans e4, k4.trans e5, ?_, ?_, ?_, ?_⟩
        · rw [oi_sa, oi_si, if_pos rfl, List.length_append]
          rfl
        · intro r w hw
          rw [oa_sa, if_neg (by decide), oa_si, oa_sa, if_neg (by decide), oa_si, k5, k6]
          exact e6 r w hw
        · intro g w hw
          rw [oa_sa, if_neg (by decide), oa_si, om_sa, om_si, k7, k8]
          exact e7 g w hw
        · rw [fl]
          exact c6
        · intro k hk2
          rw [List.length_append] at hk2
          have hk2 : k ≤ s.2.2.length + 1 := hk2
          rw [oa_sa, if_pos rfl]
          rcases Nat.lt_or_ge k (s.2.2.length + 1) with u | u
          · rw [upd_ne (by omega), k10, e9 k (by omega), List.take_append_of_le_length (by omega)]
          · have hj : k = s.2.2.length + 1 := by omega
            subst hj
            rw [upd_eq rfl, ← fl, List.take_of_length_le (by rw [List.length_append]; exact Nat.le_refl _)]
end CRoom

