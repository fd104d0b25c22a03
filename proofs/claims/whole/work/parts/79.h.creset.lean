/-! The component: the state begun anew -/
theorem roS_0 : ∀ (n k g : Nat), roS (fun _ => none) g n k = none := by
  intro n
  induction n with
  | zero => intro k g; rfl
  | succ n ih =>
    intro k g
    unfold roS
    simp [ih]
theorem occN_0 : ∀ n, occN (fun _ => none) n = 0 := by
  intro n
  induction n with
  | zero => rfl
  | succ n ih =>
    unfold occN
    simp [ih]
section CReset
variable {N : Nat} {h : PH}
theorem c_empty1 (hN : 2000 ≤ N) {p : Nat} {D : OD} (a : At sX1 p D h) : ∃ E, f_X1_empty N p h = some (pt sX1 p E h) ∧ ∀ I, RepH I h0S E := by
  have hF : p + 5 ≤ h.length := a.1
  have k0 : ∀ X v, f_J7_fill_53178 N (pl p 0) v (pt sX1 p X h) = some (pt sX1 p (sa X 0 (fil 10 v (oa X 0))) h) := fun X v => c_fillO (S := sX1) (j := 0) (n := 10) (by omega) hN a.1 w1 rfl
  have k1 : ∀ X v, f_J7_fill_53178 N (pl p 1) v (pt sX1 p X h) = some (pt sX1 p (sa X 1 (fil 10 v (oa X 1))) h) := fun X v => c_fillO (S := sX1) (j := 1) (n := 10) (by omega) hN a.1 w1 rfl
  have k2 : ∀ X v, f_J7_fill_53178 N (pl p 2) v (pt sX1 p X h) = some (pt sX1 p (sa X 2 (fil 10 v (oa X 2))) h) := fun X v => c_fillO (S := sX1) (j := 2) (n := 10) (by omega) hN a.1 w1 rfl
  have k3 : ∀ X v, f_J7_fill_53178 N (pl p 3) v (pt sX1 p X h) = some (pt sX1 p (sa X 3 (fil 10 v (oa X 3))) h) := fun X v => c_fillO (S := sX1) (j := 3) (n := 10) (by omega) hN a.1 w1 rfl
  refine ⟨si (si (si (si (si (si (sa (sa (sa (sa D 0 (fil 10 (-1) (oa D 0))) 1 (fil 10 (-1) (oa D 1))) 2 (fil 10 0 (oa D 2))) 3 (fil 10 0 (oa D 3))) 4 0) 5 0) 6 0) 7 0) 8 0) 9 0, ?_, ?_⟩
  · have x1 : f_X1_empty N p h = f_X1_empty N p (pt sX1 p D h) := by rw [a.2]
    rw [x1]
    unfold f_X1_empty
    simp (disch := first | (with_reducible assumption) | (simp only [oi_si, oi_sl, oi_sa, oi_sm, oi_sv, oi_sq, ol_si, ol_sl, ol_sa, ol_sm, ol_sv, ol_sq, oa_si, oa_sl, oa_sa, oa_sm, oa_sv, oa_sq, om_si, om_sl, om_sa, om_sm, om_sv, om_sq, ov_si, ov_sl, ov_sa, ov_sm, ov_sv, ov_sq, oq_si, oq_sl, oq_sa, oq_sm, oq_sv, oq_sq, Nat.reduceEqDiff, ↓reduceIte]; done) | omega | (exact ixn (by omega) (by omega)) | (exact ixl (by decide) (by decide)) | (simp only [pt_len, pl, z0, z1, z2, z3, z4, z5, z6, z7, z8, z9, z10, z11, z12]; omega)) only [↓gb_m, ↓gc_m, ↓gl_s, ↓gg_m, gb_s, gc_s, gg_t, gqm_0, gqm_1, pt_pt, sa_sa, sm_sm, si_si, qk1, qg1_0, qg1_1, qg1_2, qg1_3, qg1_4, qs1_4, qg1_5, qs1_5, qg1_6, qs1_6, qg1_7, qs1_7, qg1_8, qs1_8, qg1_9, qs1_9, qa1_0, qe1_0, ql1_0, qa1_1, qe1_1, ql1_1, qa1_2, qe1_2, ql1_2, qa1_3, qe1_3, ql1_3, oi_si, oi_sl, oi_sa, oi_sm, oi_sv, oi_sq, ol_si, ol_sl, ol_sa, ol_sm, ol_sv, ol_sq, oa_si, oa_sl, oa_sa, oa_sm, oa_sv, oa_sq, om_si, om_sl, om_sa, om_sm, om_sv, om_sq, ov_si, ov_sl, ov_sa, ov_sm, ov_sv, ov_sq, oq_si, oq_sl, oq_sa, oq_sm, oq_sv, oq_sq, Nat.reduceEqDiff, ↓reduceIte, n_add, n_addl, n_ladd, n_add1, n_mul, n_lmul, n_mull, n_sub, n_subl, n_subm, n_lt, n_le, n_eq, n_ltl, n_llt, n_lel, n_lle, n_eql, n_leq, n_m1, n_m1l, n_lt0, n_ge0, i_okc, i_okl, if_true, if_false, not_true, not_false, Nat.not_lt_zero, Nat.zero_le, k0, k1, k2, k3]
  · intro I
    refine ⟨⟨?_, ?_, ?_, ?_, rfl, rfl, rfl, rfl⟩, ?_, ?_⟩
    · intro r hr
      show fil 10 (-1) (oa D 0) r = _
      unfold fil
      rw [if_pos hr]
      rfl
    · intro g hg
      have e : roomS I h0S g = none := roS_0 _ _ _
      show fil 10 (-1) (oa D 1) g = _
      unfold fil
      rw [if_pos hg, e]
      rfl
    · intro g hg
      show fil 10 0 (oa D 2) g = _
      unfold fil
      rw [if_pos hg]
      rfl
    · intro g hg
      show fil 10 0 (oa D 3) g = _
      unfold fil
      rw [if_pos hg]
      rfl
    · show (0 : Int32) = Int32.ofNat (occN (fun _ => none) (iR I))
      rw [occN_0]
      rfl
    · show (0 : Int32) = Int32.ofNat (msk (fun _ => false) 10)
      decide
theorem c_reset (hN : 2000 ≤ N) {I I2 : IA} {S2 : SA} {q : Nat} (rd : RSt I2 S2 q h) {v : Int32} (hv : v = eO (sR (s0A I))) : ∃ h', f_X9_reset N q v h = some h' ∧ Fr (fun x => q ≤ x ∧ x < q + 47) h h' ∧ RSt I (s0A I) q h' := by
  obtain ⟨b1, b2, b3, b4, b5, b6, b7, b8⟩ := rd
  -- the house
  obtain ⟨D1, d1, _⟩ := b2
  obtain ⟨E1, e1, e1r⟩ := c_empty1 (N := N) hN d1
  have f1 : Fr (fun x => q + 1 ≤ x ∧ x < q + 6) h (pt sX1 (q + 1) E1 h) := Fr.of (fun x x1 x2 => by simp only [z1] at x2; omega)
  have a1 : At sX1 (q + 1) E1 (pt sX1 (q + 1) E1 h) := d1.p2
  generalize hh1 : pt sX1 (q + 1) E1 h = h1 at e1 f1 a1
  have c91 := b1.fr f1 (by omega)
  have ct1 := b3.fr f1 (by omega)
  -- the trials
  have lp : ∀ n i m hc, i + n = 5 → n < m → (Fr (fun x => q + 22 ≤ x ∧ x < q + 47) h1 hc ∧ ∀ j, j < 5 → ∃ D, At sX1 (q + 22 + 5 * j) D hc ∧ (j < i → ∀ I, RepH I h0S D)) → ∃ h2, (Fr (fun x => q + 22 ≤ x ∧ x < q + 47) h1 h2 ∧ rTs I [] q h2) ∧ gi (fun zk zs => f_X9_reset_9 N zk zs.1 zs.2.1 zs.2.2.1 zs.2.2.2) m (q, v, Int32.ofNat i, hc) = f_X9_reset_9 N (fun _ => none) q v 5 h2 := by
    intro n
    induction n with
    | zero =>
      intro i m hc hi hm hinv
      have : i = 5 := by omega
      subst this
      obtain ⟨m, rfl⟩ : ∃ k, m = k + 1 := ⟨m - 1, by omega⟩
      refine ⟨hc, ⟨hinv.1, fun j hj => ?_⟩, ?_⟩
      · obtain ⟨D, a, b⟩ := hinv.2 j hj
        exact ⟨D, a, fun _ => b hj I⟩
      · rw [gi_1]
        dsimp only
        have c9 := c91.fr hinv.1 (by omega)
        have ct := ct1.fr hinv.1 (by omega)
        unfold f_X9_reset_9
        have c5 : Int32.ofNat 5 ≤ Int32.ofNat 5 := by decide
        have c5' : Int32.ofNat 5 ≤ (5 : Int32) := by decide
        rw [c9.e.2.2.2.1, gb_s, ct.ln, gb_s, if_pos c5, gb_s, ct.ln, gb_s, if_pos c5']
    | succ n ih =>
      intro i m hc hi hm hinv
      obtain ⟨m, rfl⟩ : ∃ k, m = k + 1 := ⟨m - 1, by omega⟩
      have c9 := c91.fr hinv.1 (by omega)
      have ct := ct1.fr hinv.1 (by omega)
      obtain ⟨D, a, _⟩ := hinv.2 i (by omega)
      obtain ⟨E, e, er⟩ := c_empty1 (N := N) hN a
      have fE : Fr (fun x => q + 22 + 5 * i ≤ x ∧ x < q + 22 + 5 * i + 5) hc (pt sX1 (q + 22 + 5 * i) E hc) := Fr.of (fun x x1 x2 => by simp only [z1] at x2; omega)
      obtain ⟨h2, k1, k2⟩ := ih (i + 1) m (pt sX1 (q + 22 + 5 * i) E hc) (by omega) (by omega) ⟨hinv.1.tr (fE.up (fun x hx => by omega)), fun j hj => by
        by_cases w : j = i
        · subst w
          exact ⟨E, a.p2, fun _ => er⟩
        · obtain ⟨D2, a2, b2⟩ := hinv.2 j hj
          exact ⟨D2, a2.fr fE (fun x x1 x2 => by simp only [z1] at x2; omega), fun hji => b2 (by omega)⟩⟩
      refine ⟨h2, k1, ?_⟩
      rw [gi_1]
      generalize hz : gi _ m = zk at k2
      dsimp only
      unfold f_X9_reset_9
      have c5 : ¬ Int32.ofNat 5 ≤ Int32.ofNat i := of_eq_false (nleF (by omega) (by omega) (by omega))
      rw [c9.e.2.2.2.1, gb_s, ct.ln, gb_s, if_neg c5, gb_s, ct.at (by omega), gb_s, a.is rfl, gg_t, e, gb_s, gl_s, n_add1, k2]
      rfl
  obtain ⟨h2, ⟨f2, tr2⟩, k2⟩ := lp 5 0 N h1 (by omega) (by omega) ⟨Fr.rf, fun j hj => by
    obtain ⟨D, a, _⟩ := b8 j hj
    exact ⟨D, a.fr f1 (fun x x1 x2 => by simp only [z1] at x2; omega), fun z => by omega⟩⟩
  have c92 := c91.fr f2 (by omega)
  have ct2 := ct1.fr f2 (by omega)
  have h1e : At sX1 (q + 1) E1 h2 := a1.fr f2 (fun x x1 x2 => by simp only [z1] at x2; omega)
  -- the diary
  obtain ⟨D0, g0, _⟩ := (b4.fr f1 (fun x _ _ => by omega)).fr f2 (fun x _ _ => by omega)
  have k3 : f_X0_empty N (q + 7) h2 = some (pt sX0 (q + 7) (si (si D0 1 0) 2 0) h2) := by
    have hF : q + 7 + 2 ≤ h2.length := g0.1
    have x1 : f_X0_empty N (q + 7) h2 = f_X0_empty N (q + 7) (pt sX0 (q + 7) D0 h2) := by rw [g0.2]
    rw [x1]
    unfold f_X0_empty
    simp (disch := first | (with_reducible assumption) | (simp only [oi_si, oi_sl, oi_sa, oi_sm, oi_sv, oi_sq, ol_si, ol_sl, ol_sa, ol_sm, ol_sv, ol_sq, oa_si, oa_sl, oa_sa, oa_sm, oa_sv, oa_sq, om_si, om_sl, om_sa, om_sm, om_sv, om_sq, ov_si, ov_sl, ov_sa, ov_sm, ov_sv, ov_sq, oq_si, oq_sl, oq_sa, oq_sm, oq_sv, oq_sq, Nat.reduceEqDiff, ↓reduceIte]; done) | omega | (exact ixn (by omega) (by omega)) | (exact ixl (by decide) (by decide)) | (simp only [pt_len, pl, z0, z1, z2, z3, z4, z5, z6, z7, z8, z9, z10, z11, z12]; omega)) only [↓gb_m, ↓gc_m, ↓gl_s, ↓gg_m, gb_s, gc_s, gg_t, gqm_0, gqm_1, pt_pt, sa_sa, sm_sm, si_si, qk0, qg0_0, qg0_1, qs0_1, qg0_2, qs0_2, qa0_0, qe0_0, ql0_0, oi_si, oi_sl, oi_sa, oi_sm, oi_sv, oi_sq, ol_si, ol_sl, ol_sa, ol_sm, ol_sv, ol_sq, oa_si, oa_sl, oa_sa, oa_sm, oa_sv, oa_sq, om_si, om_sl, om_sa, om_sm, om_sv, om_sq, ov_si, ov_sl, ov_sa, ov_sm, ov_sv, ov_sq, oq_si, oq_sl, oq_sa, oq_sm, oq_sv, oq_sq, Nat.reduceEqDiff, ↓reduceIte, n_add, n_addl, n_ladd, n_add1, n_mul, n_lmul, n_mull, n_sub, n_subl, n_subm, n_lt, n_le, n_eq, n_ltl, n_llt, n_lel, n_lle, n_eql, n_leq, n_m1, n_m1l, n_lt0, n_ge0, i_okc, i_okl, if_true, if_false, not_true, not_false, Nat.not_lt_zero, Nat.zero_le]
  have f3 : Fr (fun x => q + 7 ≤ x ∧ x < q + 9) h2 (pt sX0 (q + 7) (si (si D0 1 0) 2 0) h2) := Fr.of (fun x x1 x2 => by simp only [z0] at x2; omega)
  have a3 : At sX0 (q + 7) (si (si D0 1 0) 2 0) (pt sX0 (q + 7) (si (si D0 1 0) 2 0) h2) := g0.p2
  generalize hh3 : pt sX0 (q + 7) (si (si D0 1 0) 2 0) h2 = h3 at k3 f3 a3
  have c93 := c92.fr f3 (by omega)
  -- sightings
  obtain ⟨D8, g8, _⟩ := ((b5.fr f1 (fun x _ _ => by omega)).fr f2 (fun x _ _ => by omega)).fr f3 (fun x _ _ => by omega)
  have k4 : pfV 8 5 (q + 9) (.int 0) h3 = some (pt sX8 (q + 9) (si D8 5 0) h3) := g8.sI (k := 5) rfl rfl
  have f4 : Fr (fun x => q + 9 ≤ x ∧ x < q + 15) h3 (pt sX8 (q + 9) (si D8 5 0) h3) := Fr.of (fun x x1 x2 => by simp only [z8] at x2; omega)
  have a4 : At sX8 (q + 9) (si D8 5 0) (pt sX8 (q + 9) (si D8 5 0) h3) := g8.p2
  generalize hh4 : pt sX8 (q + 9) (si D8 5 0) h3 = h4 at k4 f4 a4
  have c94 := c93.fr f4 (by omega)
  -- the register
  obtain ⟨D6, g6, _⟩ := (((b6.fr f1 (fun x _ _ => by omega)).fr f2 (fun x _ _ => by omega)).fr f3 (fun x _ _ => by omega)).fr f4 (fun x _ _ => by omega)
  have k5 : f_J7_fill_53178 N (pl (q + 15) 0) 0 (pt sX6 (q + 15) D6 h4) = _ := c_fillO (S := sX6) (j := 0) (n := 10) (by omega) hN g6.1 w6 rfl
  rw [g6.2] at k5
  have f5 : Fr (fun x => q + 15 ≤ x ∧ x < q + 18) h4 (pt sX6 (q + 15) (sa D6 0 (fil 10 0 (oa D6 0))) h4) := Fr.of (fun x x1 x2 => by simp only [z6] at x2; omega)
  have a5 : At sX6 (q + 15) (sa D6 0 (fil 10 0 (oa D6 0))) (pt sX6 (q + 15) (sa D6 0 (fil 10 0 (oa D6 0))) h4) := g6.p2
  generalize hh5 : pt sX6 (q + 15) (sa D6 0 (fil 10 0 (oa D6 0))) h4 = h5 at k5 f5 a5
  have c95 := c94.fr f5 (by omega)
  -- jobs
  obtain ⟨D4, g4, _⟩ := ((((b7.fr f1 (fun x _ _ => by omega)).fr f2 (fun x _ _ => by omega)).fr f3 (fun x _ _ => by omega)).fr f4 (fun x _ _ => by omega)).fr f5 (fun x _ _ => by omega)
  have k6 : pfV 4 3 (q + 18) (.int 0) h5 = some (pt sX4 (q + 18) (si D4 3 0) h5) := g4.sI (k := 3) rfl rfl
  have f6 : Fr (fun x => q + 18 ≤ x ∧ x < q + 22) h5 (pt sX4 (q + 18) (si D4 3 0) h5) := Fr.of (fun x x1 x2 => by simp only [z4] at x2; omega)
  have a6 : At sX4 (q + 18) (si D4 3 0) (pt sX4 (q + 18) (si D4 3 0) h5) := g4.p2
  generalize hh6 : pt sX4 (q + 18) (si D4 3 0) h5 = h6 at k6 f6 a6
  have c96 := c95.fr f6 (by omega)
  -- its own cell
  obtain ⟨D9, g9, g9r, _⟩ := c96
  have hF9 : q + 1 ≤ h6.length := g9.1
  have f7 : Fr (fun x => x = q) h6 (pt sX9 q (si (si (si (si D9 7 0) 8 v) 9 0) 10 0) h6) := Fr.of (fun x x1 x2 => by simp only [z9] at x2; omega)
  have a7 : At sX9 q (si (si (si (si D9 7 0) 8 v) 9 0) 10 0) (pt sX9 q (si (si (si (si D9 7 0) 8 v) 9 0) 10 0) h6) := g9.p2
  refine ⟨pt sX9 q (si (si (si (si D9 7 0) 8 v) 9 0) 10 0) h6, ?_, ?_, ?_⟩
  · unfold f_X9_reset
    have k2 : gi (fun zk zs => f_X9_reset_9 N zk zs.1 zs.2.1 zs.2.2.1 zs.2.2.2) N (q, v, 0, h1) = _ := k2
    rw [b1.e.2.2.1, gb_s, d1.is rfl, gg_t, e1, gb_s, k2]
    unfold f_X9_reset_9
    have c5' : Int32.ofNat 5 ≤ (5 : Int32) := by decide
    rw [c92.e.2.2.2.1, gb_s, ct2.ln, gb_s, if_pos c5', c92.e.2.2.2.2.1, gb_s, g0.is rfl, gg_t, k3, gb_s, c93.e.2.2.2.2.2.1, gb_s, k4, gb_s, c94.e.2.2.2.2.2.2.1, gb_s, g6.gR (k := 0) rfl rfl, gb_s, k5, gb_s, c95.e.2.2.2.2.2.2.2.1, gb_s, k6, gb_s]
    have x1 : h6 = pt sX9 q D9 h6 := g9.2.symm
    rw [x1]
    simp (disch := first | (with_reducible assumption) | (simp only [oi_si, oi_sl, oi_sa, oi_sm, oi_sv, oi_sq, ol_si, ol_sl, ol_sa, ol_sm, ol_sv, ol_sq, oa_si, oa_sl, oa_sa, oa_sm, oa_sv, oa_sq, om_si, om_sl, om_sa, om_sm, om_sv, om_sq, ov_si, ov_sl, ov_sa, ov_sm, ov_sv, ov_sq, oq_si, oq_sl, oq_sa, oq_sm, oq_sv, oq_sq, Nat.reduceEqDiff, ↓reduceIte]; done) | omega | (exact ixn (by omega) (by omega)) | (exact ixl (by decide) (by decide)) | (simp only [pt_len, pl, z0, z1, z2, z3, z4, z5, z6, z7, z8, z9, z10, z11, z12]; omega)) only [↓gb_m, ↓gc_m, ↓gl_s, ↓gg_m, gb_s, gc_s, gg_t, gqm_0, gqm_1, pt_pt, sa_sa, sm_sm, si_si, qk9, qs9_0, qs9_1, qs9_2, qs9_3, qs9_4, qs9_5, qs9_6, qg9_7, qs9_7, qg9_8, qs9_8, qg9_9, qs9_9, qg9_10, qs9_10, oi_si, oi_sl, oi_sa, oi_sm, oi_sv, oi_sq, ol_si, ol_sl, ol_sa, ol_sm, ol_sv, ol_sq, oa_si, oa_sl, oa_sa, oa_sm, oa_sv, oa_sq, om_si, om_sl, om_sa, om_sm, om_sv, om_sq, ov_si, ov_sl, ov_sa, ov_sm, ov_sv, ov_sq, oq_si, oq_sl, oq_sa, oq_sm, oq_sv, oq_sq, Nat.reduceEqDiff, ↓reduceIte, n_add, n_addl, n_ladd, n_add1, n_mul, n_lmul, n_mull, n_sub, n_subl, n_subm, n_lt, n_le, n_eq, n_ltl, n_llt, n_lel, n_lle, n_eql, n_leq, n_m1, n_m1l, n_lt0, n_ge0, i_okc, i_okl, if_true, if_false, not_true, not_false, Nat.not_lt_zero, Nat.zero_le]
  · exact ((((((f1.up (fun x hx => by omega)).tr (f2.up (fun x hx => by omega))).tr (f3.up (fun x hx => by omega))).tr (f4.up (fun x hx => by omega))).tr (f5.up (fun x hx => by omega))).tr (f6.up (fun x hx => by omega))).tr (f7.up (fun x hx => by omega))
  · refine ⟨⟨_, a7, g9r, ?_, ?_, ?_, ?_⟩, ⟨E1, ?_, e1r I⟩, ?_, ⟨si (si D0 1 0) 2 0, ?_, rfl, rfl, fun k x hx => (by cases hx)⟩, ⟨si D8 5 0, ?_, rfl, fun k x hx => (by cases hx)⟩, ⟨sa D6 0 (fil 10 0 (oa D6 0)), ?_, ?_⟩, ⟨si D4 3 0, ?_, rfl, fun k x hx => (by cases hx)⟩, ?_⟩
    · simp only [oi_si, oi_sl, oi_sa, oi_sm, oi_sv, oi_sq, ol_si, ol_sl, ol_sa, ol_sm, ol_sv, ol_sq, oa_si, oa_sl, oa_sa, oa_sm, oa_sv, oa_sq, om_si, om_sl, om_sa, om_sm, om_sv, om_sq, ov_si, ov_sl, ov_sa, ov_sm, ov_sv, ov_sq, oq_si, oq_sl, oq_sa, oq_sm, oq_sv, oq_sq, Nat.reduceEqDiff, ↓reduceIte]
      show (0 : Int32) = Int32.ofNat (msk (fun g => ([] : List Nat).contains g) 10)
      decide
    · simp only [oi_si, oi_sl, oi_sa, oi_sm, oi_sv, oi_sq, ol_si, ol_sl, ol_sa, ol_sm, ol_sv, ol_sq, oa_si, oa_sl, oa_sa, oa_sm, oa_sv, oa_sq, om_si, om_sl, om_sa, om_sm, om_sv, om_sq, ov_si, ov_sl, ov_sa, ov_sm, ov_sv, ov_sq, oq_si, oq_sl, oq_sa, oq_sm, oq_sv, oq_sq, Nat.reduceEqDiff, ↓reduceIte]; exact hv
    · simp only [oi_si, oi_sl, oi_sa, oi_sm, oi_sv, oi_sq, ol_si, ol_sl, ol_sa, ol_sm, ol_sv, ol_sq, oa_si, oa_sl, oa_sa, oa_sm, oa_sv, oa_sq, om_si, om_sl, om_sa, om_sm, om_sv, om_sq, ov_si, ov_sl, ov_sa, ov_sm, ov_sv, ov_sq, oq_si, oq_sl, oq_sa, oq_sm, oq_sv, oq_sq, Nat.reduceEqDiff, ↓reduceIte]; rfl
    · simp only [oi_si, oi_sl, oi_sa, oi_sm, oi_sv, oi_sq, ol_si, ol_sl, ol_sa, ol_sm, ol_sv, ol_sq, oa_si, oa_sl, oa_sa, oa_sm, oa_sv, oa_sq, om_si, om_sl, om_sa, om_sm, om_sv, om_sq, ov_si, ov_sl, ov_sa, ov_sm, ov_sv, ov_sq, oq_si, oq_sl, oq_sa, oq_sm, oq_sv, oq_sq, Nat.reduceEqDiff, ↓reduceIte]; rfl
    · exact ((((h1e.fr f3 (fun x x1 x2 => by simp only [z1] at x2; omega)).fr f4 (fun x x1 x2 => by simp only [z1] at x2; omega)).fr f5 (fun x x1 x2 => by simp only [z1] at x2; omega)).fr f6 (fun x x1 x2 => by simp only [z1] at x2; omega)).fr f7 (fun x x1 x2 => by simp only [z1] at x2; omega)
    · exact ((((ct2.fr f3 (by omega)).fr f4 (by omega)).fr f5 (by omega)).fr f6 (by omega)).fr f7 (by omega)
    · exact (((a3.fr f4 (fun x x1 x2 => by simp only [z0] at x2; omega)).fr f5 (fun x x1 x2 => by simp only [z0] at x2; omega)).fr f6 (fun x x1 x2 => by simp only [z0] at x2; omega)).fr f7 (fun x x1 x2 => by simp only [z0] at x2; omega)
    · exact ((a4.fr f5 (fun x x1 x2 => by simp only [z8] at x2; omega)).fr f6 (fun x x1 x2 => by simp only [z8] at x2; omega)).fr f7 (fun x x1 x2 => by simp only [z8] at x2; omega)
    · exact (a5.fr f6 (fun x x1 x2 => by simp only [z6] at x2; omega)).fr f7 (fun x x1 x2 => by simp only [z6] at x2; omega)
    · intro g hg
      rw [oa_sa, if_pos rfl]
      unfold fil
      rw [if_pos hg]
      rfl
    · exact a6.fr f7 (fun x x1 x2 => by simp only [z4] at x2; omega)
    · exact ((((tr2.fr f3 (fun x _ _ => by omega)).fr f4 (fun x _ _ => by omega)).fr f5 (fun x _ _ => by omega)).fr f6 (fun x _ _ => by omega)).fr f7 (fun x _ _ => by omega)
end CReset

