/-! The component reads: all lines into the draft -/
theorem cd_fl : ∀ (rs : List (List Cd)) (a : List Cd), (rs.foldl (fun a c => a ++ c ++ [(0, 0)]) a).length = a.length + rs.flatten.length + rs.length := by
  intro rs
  induction rs with
  | nil => intro a; rfl
  | cons c rs ih =>
    intro a
    rw [List.foldl_cons, ih, List.flatten_cons]
    simp only [List.length_append, List.length_cons, List.length_nil]
    omega
theorem cd_fl' (rs : List (List Cd)) : rs.flatten.length ≤ (cdAll rs).length := by
  unfold cdAll
  rw [cd_fl]
  omega
theorem kd_end {ts : List Tok} (hv : TV ts) : (Int32.ofNat (kd (hd ts)) = 0) = ((hd ts).1 = 0) := by
  have hp := hv.hd.1
  have e2 : (0 : Int32) = Int32.ofNat 0 := rfl
  rw [e2]
  unfold kd
  split
  · rename_i z
    obtain ⟨y, y1, y2⟩ := hp.2.2.2.1 z
    rw [y1]
    have yl : 40 ≤ y ∧ y < 1000 := by
      unfold isS at y2
      simp only [Bool.or_eq_true, decide_eq_true_eq] at y2
      omega
    rw [show ([y] : List Nat).headD 0 = y from rfl, n_eq (by omega) (by omega)]
    exact propext ⟨fun w => by omega, fun w => by omega⟩
  · split
    · rename_i z
      rw [n_eq (by omega) (by omega)]
      exact propext ⟨fun w => by omega, fun w => by omega⟩
    · rw [n_eq (by have := hp.1; omega) (by omega)]
section CInto
variable {N : Nat} {h : PH} {c : Nat} {T : List Nat}
theorem c_into26 (hc : 66 ≤ c) (hl : c + 7 ≤ h.length) (hN : 2000 ≤ N) (hT : TOk T) : ∀ n k m s ts R D E, k + n = 1000 → n < m → CK T ts D → RR c R → CDr s E → PSk s → ts.length ≤ 1001 → (cdAll s.2.2).length + ts.length ≤ 1001 → ∃ v R' D' E', gi (fun zk zs => f_X3_readInto_26 N zk zs.1 zs.2.1 zs.2.2) m (3, Int32.ofNat k, H3 c h R D E) = some (v, H3 c h R' D' E') ∧ RR c R' ∧ oa E' 10 0 = 0 ∧ match pInn n s ts with
    | .inl f => v = Int32.ofNat f
    | .inr s' => v = 0 ∧ CDr s' E' := by
  intro n
  induction n with
  | zero =>
    intro k m s ts R D E hk hm q hR hD hs hl1 hb
    refine ⟨0, R, D, E, ?_, hR, hD.z, rfl, hD⟩
    obtain ⟨m, rfl⟩ : ∃ k, m = k + 1 := ⟨m - 1, by omega⟩
    rw [gi_1]
    generalize hz : gi _ m = zk
    dsimp only
    unfold f_X3_readInto_26 f_X3_readInto_130
    have n1 : ((1000 : Int32) ≤ Int32.ofNat k) = True := nleT (a := 1000) (by omega) (by omega) (by omega)
    rw [if_pos (of_eq_true n1)]
  | succ n ih =>
    intro k m s ts R D E hk hm q hR hD hs hl1 hb
    have y := H3_at (h := h) (R := R) (D := D) (E := E) hc hl
    have n1 : ((1000 : Int32) ≤ Int32.ofNat k) = False := nleF (a := 1000) (by omega) (by omega) (by omega)
    have ga : gfR 3 0 3 (H3 c h R D E) = some 1 := y.1.gV (k := 0) rfl rfl hR.1
    have gis : gIs 10 1 (H3 c h R D E) = true := y.2.1.is rfl
    have gi3 : gIs 3 3 (H3 c h R D E) = true := y.1.is rfl
    have gk : gfI 10 2 1 (H3 c h R D E) = some (Int32.ofNat (kd (hd ts))) := by rw [y.2.1.gI (k := 2) rfl rfl, q.2.2.2.1]
    have ke := kd_end q.2.1
    unfold pInn
    by_cases ze : (hd ts).1 = 0
    · have k0 : Int32.ofNat (kd (hd ts)) = 0 := by rw [ke]; exact ze
      rw [if_pos ze]
      refine ⟨0, R, D, E, ?_, hR, hD.z, rfl, hD⟩
      obtain ⟨m, rfl⟩ : ∃ k, m = k + 1 := ⟨m - 1, by omega⟩
      rw [gi_1]
      generalize hz : gi _ m = zk
      dsimp only
      unfold f_X3_readInto_26 f_X3_readInto_130
      rw [if_neg (of_eq_false n1), ga, gb_s, gk, gb_s, if_pos k0]
    have k0 : ¬ Int32.ofNat (kd (hd ts)) = 0 := by rw [ke]; exact ze
    rw [if_neg ze]
    have w0 := r_word (N := N) (h := h) (R := R) (E := E) hc hl hN hT q (k := 0) (by decide)
    have w1 := r_word (N := N) (h := h) (R := R) (E := E) hc hl hN hT q (k := 1) (by decide)
    have w5 := r_word (N := N) (h := h) (R := R) (E := E) hc hl hN hT q (k := 5) (by decide)
    rw [show wdL.getD 0 [] = wRoom from rfl] at w0
    rw [show wdL.getD 1 [] = wGuest from rfl] at w1
    rw [show wdL.getD 5 [] = wRule from rfl] at w5
    have ff : ¬ (false = true) := by decide
    have line : ∀ zk, ∃ v R2 D2 E2, f_X3_readInto_26 N zk 3 (Int32.ofNat k) (H3 c h R D E) = f_X3_readInto_105 N zk 3 (Int32.ofNat k) v (H3 c h R2 D2 E2) ∧ RR c R2 ∧ oa E2 10 0 = 0 ∧ match pLine s ts with
        | .inl f => v = 0 ∧ oi R2 2 = Int32.ofNat f
        | .inr x => v = 1 ∧ CK T x.2 D2 ∧ CDr x.1 E2 := by
      intro zk
      unfold f_X3_readInto_26 pLine
      rw [if_neg (of_eq_false n1), ga, gb_s, gk, gb_s, if_neg k0, gb_s, gis, gg_t, w0, gc_s]
      cases z0 : isWd wRoom ts with
      | true =>
        obtain ⟨v, R2, D2, E2, e1, e2⟩ := c_readRoom (N := N) (h := h) hc hl hN hT hR q hD hs ze
        rw [if_neg (eBt _ rfl), if_pos rfl, gi3, gg_t, e1, gc_s]
        exact ⟨v, R2, D2, E2, rfl, e2⟩
      | false =>
        rw [if_pos (eBf _ rfl), if_neg ff, ga, gb_s, gis, gg_t, w1, gc_s]
        cases z1 : isWd wGuest ts with
        | true =>
          obtain ⟨v, R2, D2, E2, e1, e2⟩ := c_readGuest (N := N) (h := h) hc hl hN hT hR q hD hs ze
          rw [if_neg (eBt _ rfl), if_pos rfl, gi3, gg_t, e1, gc_s]
          exact ⟨v, R2, D2, E2, rfl, e2⟩
        | false =>
          rw [if_pos (eBf _ rfl), if_neg ff, ga, gb_s, gis, gg_t, w5, gc_s]
          cases z5 : isWd wRule ts with
          | true =>
            obtain ⟨v, R2, D2, E2, e1, e2⟩ := c_readRule (N := N) (h := h) hc hl hN hT hR q hD hs ze (by have := cd_fl' s.2.2; omega)
            rw [if_neg (eBt _ rfl), if_pos rfl, gi3, gg_t, e1, gc_s]
            exact ⟨v, R2, D2, E2, rfl, e2⟩
          | false =>
            rw [if_pos (eBf _ rfl), if_neg ff, gi3, gg_t, r_wrong hc hl hR q (k := 1) (kI := 1) rfl, gc_s]
            exact ⟨0, _, D, E, rfl, hR.si _, hD.z, rfl, by rw [oi_si, if_pos rfl]⟩
    have t10 : ¬ (1 : Int32) = 0 := by decide
    obtain ⟨m, rfl⟩ : ∃ j, m = j + 1 := ⟨m - 1, by omega⟩
    rw [gi_1]
    generalize hz : gi _ m = zk
    dsimp only
    obtain ⟨v, R2, D2, E2, e1, e2, e3, e4⟩ := line zk
    rw [e1]
    have y2 := H3_at (h := h) (R := R2) (D := D2) (E := E2) hc hl
    unfold f_X3_readInto_105 f_X3_readInto_119
    cases hq : pLine s ts with
    | inl f =>
      rw [hq] at e4
      dsimp only at e4
      obtain ⟨rfl, e5⟩ := e4
      rw [if_pos rfl, y2.1.gI (k := 2) rfl rfl, gb_s]
      exact ⟨_, R2, D2, E2, rfl, e2, e3, e5⟩
    | inr x =>
      rw [hq] at e4
      dsimp only at e4
      obtain ⟨rfl, e5, e6⟩ := e4
      obtain ⟨a1, a2, a3⟩ := pLine_ok hs q.2.1 hl1 hq
      obtain ⟨v, R3, D3, s1, s2, s3⟩ := r_takeSg (N := N) (h := h) (E := E2) hc hl hN hT e2 e5 (s := 59) (sI := 59) rfl (by omega) (by omega)
      have y3 := H3_at (h := h) (R := R3) (D := D3) (E := E2) hc hl
      rw [if_neg t10, y2.1.is rfl, gg_t, s1, gc_s]
      dsimp only
      cases hs2 : isSg 59 x.2 with
      | true =>
        rw [hs2, if_pos rfl] at s3
        obtain ⟨rfl, s4⟩ := s3
        have kk : (hd x.2).1 ≠ 0 := by rw [(isSg_k hs2).1]; decide
        have l1 := a1.len
        have l2 := (Suf.tl a1.tv kk).len
        obtain ⟨v, R4, D4, E4, f1, f2⟩ := ih (k + 1) m x.1 x.2.tail R3 D3 E2 (by omega) (by omega) s4 s2 e6 a2 (by omega) (by omega)
        rw [hz] at f1
        rw [if_neg t10, gl_s, n_add1, f1]
        exact ⟨v, R4, D4, E4, rfl, f2⟩
      | false =>
        rw [hs2, if_neg ff] at s3
        obtain ⟨rfl, s4⟩ := s3
        rw [if_pos rfl, y3.1.gI (k := 2) rfl rfl, gb_s]
        exact ⟨_, R3, D3, E2, rfl, s2, e3, s4⟩
theorem c_readInto (hc : 66 ≤ c) (hc2 : c < 80) (hl : c + 7 ≤ h.length) (hN : 2000 ≤ N) (hT : TOk T) {R D E : OD} (hR : ov R 0 = .ref 1) (hD : RepTa T D) (h10 : oa E 10 0 = 0) : ∃ v R' D' E', f_X3_readInto N 3 c (H3 c h R D E) = some (v, H3 c h R' D' E') ∧ RR c R' ∧ oa E' 10 0 = 0 ∧ match pInn 1000 ([], [], []) (toks T) with
    | .inl f => v = Int32.ofNat f
    | .inr s' => v = 0 ∧ CDr s' E' := by
  have w1 : pfV 3 1 3 (.ref c) (H3 c h R D E) = some (H3 c h (sv R 1 (.ref c)) D E) := by
    unfold H3
    exact pfR_pt (by rw [pt_len, pt_len]; simp only [z3]; omega) rfl rfl
  have hR1 : RR c (sv R 1 (.ref c)) := ⟨by rw [ov_sv, if_neg (by decide)]; exact hR, by rw [ov_sv, if_pos rfl]⟩
  have w2 : f_X2_forget N c (H3 c h (sv R 1 (.ref c)) D E) = some (H3 c h (sv R 1 (.ref c)) D (si (si (si (si (si (si E 0 0) 1 0) 2 0) 3 0) 4 0) 11 0)) := by
    have hF : c + 7 ≤ (pt sX3 3 (sv R 1 (.ref c)) (pt sX10 1 D h)).length := by rw [pt_len, pt_len]; exact hl
    rw [H3_i hc, H3_i hc]
    generalize pt sX3 3 (sv R 1 (.ref c)) (pt sX10 1 D h) = h0 at hF ⊢
    unfold f_X2_forget
    simp (disch := first | (with_reducible assumption) | (simp only [oi_si, oi_sl, oi_sa, oi_sm, oi_sv, oi_sq, ol_si, ol_sl, ol_sa, ol_sm, ol_sv, ol_sq, oa_si, oa_sl, oa_sa, oa_sm, oa_sv, oa_sq, om_si, om_sl, om_sa, om_sm, om_sv, om_sq, ov_si, ov_sl, ov_sa, ov_sm, ov_sv, ov_sq, oq_si, oq_sl, oq_sa, oq_sm, oq_sv, oq_sq, Nat.reduceEqDiff, ↓reduceIte]; done) | omega | (exact ixn (by omega) (by omega)) | (exact ixl (by decide) (by decide)) | (simp only [pt_len, pl, z0, z1, z2, z3, z4, z5, z6, z7, z8, z9, z10, z11, z12]; omega)) only [↓gb_m, ↓gc_m, ↓gl_s, ↓gg_m, gb_s, gc_s, gg_t, gqm_0, gqm_1, pt_pt, sa_sa, sm_sm, si_si, qk2, qg2_0, qs2_0, qg2_1, qs2_1, qg2_2, qs2_2, qg2_3, qs2_3, qg2_4, qs2_4, qg2_5, qg2_6, qg2_7, qg2_8, qg2_9, qg2_10, qg2_11, qs2_11, qa2_5, qe2_5, ql2_5, qa2_6, qe2_6, ql2_6, qa2_7, qe2_7, ql2_7, qa2_8, qe2_8, ql2_8, qa2_9, qe2_9, ql2_9, qa2_10, qe2_10, ql2_10, oi_si, oi_sl, oi_sa, oi_sm, oi_sv, oi_sq, ol_si, ol_sl, ol_sa, ol_sm, ol_sv, ol_sq, oa_si, oa_sl, oa_sa, oa_sm, oa_sv, oa_sq, om_si, om_sl, om_sa, om_sm, om_sv, om_sq, ov_si, ov_sl, ov_sa, ov_sm, ov_sv, ov_sq, oq_si, oq_sl, oq_sa, oq_sm, oq_sv, oq_sq, Nat.reduceEqDiff, ↓reduceIte, n_add, n_addl, n_ladd, n_add1, n_mul, n_lmul, n_mull, n_sub, n_subl, n_subm, n_lt, n_le, n_eq, n_ltl, n_llt, n_lel, n_lle, n_eql, n_leq, n_m1, n_m1l, n_lt0, n_ge0, i_okc, i_okl, if_true, if_false, not_true, not_false, Nat.not_lt_zero, Nat.zero_le]
  generalize hE1 : si (si (si (si (si (si E 0 0) 1 0) 2 0) 3 0) 4 0) 11 0 = E1 at w2
  have cd : CDr ([], [], []) E1 := by
    subst hE1
    refine ⟨rfl, rfl, rfl, rfl, rfl, fun r x hx => (by cases hx), fun g x hx => (by cases hx), ⟨rfl, fun j x hx => (by cases hx)⟩, fun k hk => ?_⟩
    have hk : k ≤ 0 := hk
    have : k = 0 := by omega
    subst this
    exact h10
  have w3 : pfV 3 2 3 (.int 0) (H3 c h (sv R 1 (.ref c)) D E1) = some (H3 c h (si (sv R 1 (.ref c)) 2 0) D E1) := by
    unfold H3
    exact qs3_2 (by rw [pt_len, pt_len]; omega)
  have hR2 : RR c (si (sv R 1 (.ref c)) 2 0) := hR1.si 0
  generalize si (sv R 1 (.ref c)) 2 0 = R2 at w3 hR2
  obtain ⟨D2, g1, g2⟩ := c_advance (N := N) (p := 1) (h := pt sX3 3 R2 (pt sX2 c E1 h)) (T := T) (D := si D 6 0) (by rw [pt_len, pt_len]; omega) hN hT (e := 0) hD (Nat.zero_le _) (by rw [oi_si, if_pos rfl]; rfl)
  have w4 : f_X10_goToFirstToken N 1 (H3 c h R2 D E1) = some (H3 c h R2 D2 E1) := by
    unfold f_X10_goToFirstToken
    have p1 : pfV 10 6 1 (.int 0) (H3 c h R2 D E1) = some (H3 c h R2 (si D 6 0) E1) := by
      rw [H3_t hc, H3_t hc]
      exact pfI_pt (by rw [pt_len, pt_len]; simp only [z10]; omega) rfl rfl
    rw [p1, gb_s, (H3_at hc hl).2.1.is rfl, gg_t]
    rw [← H3_t hc, ← H3_t hc] at g1
    rw [g1, gb_s]
  have et : tkF T 0 = toks T := rfl
  rw [et] at g2
  obtain ⟨t1, t2⟩ := toks_ok hT
  obtain ⟨v, R3, D3, E3, i1, i2⟩ := c_into26 (N := N) (h := h) hc hl hN hT 1000 0 N ([], [], []) (toks T) R2 D2 E1 (by omega) (by omega) g2 hR2 cd ⟨by decide, by decide, by decide, fun x hx => (by cases hx), fun x hx => (by cases hx), fun x hx => (by cases hx)⟩ t2 (by show 0 + _ ≤ _; omega)
  refine ⟨v, R3, D3, E3, ?_, i2⟩
  have y1 := H3_at (h := h) (R := sv R 1 (.ref c)) (D := D) (E := E) hc hl
  have y2 := H3_at (h := h) (R := R2) (D := D) (E := E1) hc hl
  unfold f_X3_readInto
  rw [w1, gb_s, y1.1.gV (k := 1) rfl rfl hR1.2, gb_s, y1.2.2.is rfl, gg_t, w2, gb_s, w3, gb_s, y2.1.gV (k := 0) rfl rfl hR2.1, gb_s, y2.2.1.is rfl, gg_t, w4, gb_s]
  exact i1
end CInto

