/-! The component: a state copied, whole -/
section CSCopy
variable {N : Nat} {h : PH}
theorem rTr.ln {q : Nat} (t : rTr q h) : alen 4 (q + 6) h = some (Int32.ofNat 5) := by
  obtain ⟨f, a, c⟩ := t
  unfold alen
  rw [a]
  show (if (4 : Nat) = 4 then some (Int32.ofNat 5) else none) = _
  rw [if_pos rfl]
theorem c_sCopy (hN : 2000 ≤ N) {I I2 : IA} {S S2 : SA} {p q : Nat} (rs : RSt I S p h) (rd : RSt I2 S2 q h) (hI : IOk I) (hS : SOk I S) (hpq : p + 47 ≤ q ∨ q + 47 ≤ p) : ∃ h', f_X9_copyFrom N q p h = some h' ∧ Fr (fun x => q ≤ x ∧ x < q + 47) h h' ∧ RSt I S q h' := by
  have ll : (hL (hR I S)).length ≤ 1000 := by
    have h2 := (replay_fit hI (fun e => e.2.2.2) hS.2.2.1).2
    have h3 := hS.2.1
    unfold hR
    omega
  have i3 := hI.2.2.1
  obtain ⟨b1, b2, b3, b4, b5, b6, b7, b8⟩ := rd
  -- the house
  obtain ⟨D1, d1, _⟩ := b2
  obtain ⟨D1', s1, s1r⟩ := rs.2.1
  obtain ⟨E1, e1, e1r⟩ := c_copy1 (N := N) d1 s1 (by omega)
  have f1 : Fr (fun x => q + 1 ≤ x ∧ x < q + 6) h (pt sX1 (q + 1) E1 h) := Fr.of (fun x x1 x2 => by simp only [z1] at x2; omega)
  have a1 : At sX1 (q + 1) E1 (pt sX1 (q + 1) E1 h) := d1.p2
  generalize hh1 : pt sX1 (q + 1) E1 h = h1 at e1 f1 a1
  have rs1 := rs.fr f1 (fun x _ _ => by omega)
  have c91 := b1.fr f1 (by omega)
  have ct1 := b3.fr f1 (by omega)
  -- the trials
  have lp : ∀ n i m hc, i + n = 5 → n < m → (Fr (fun x => q + 22 ≤ x ∧ x < q + 47) h1 hc ∧ ∀ j, j < 5 → ∃ D, At sX1 (q + 22 + 5 * j) D hc ∧ (j < i → j ≤ iK I → RepH I (replay I (fun _ => rlI j) (sE S)) D)) → ∃ h2, (Fr (fun x => q + 22 ≤ x ∧ x < q + 47) h1 h2 ∧ rTs I (sE S) q h2) ∧ gi (fun zk zs => f_X9_copyFrom_13 N zk zs.1 zs.2.1 zs.2.2.1 zs.2.2.2) m (q, p, Int32.ofNat i, hc) = f_X9_copyFrom_13 N (fun _ => none) q p 5 h2 := by
    intro n
    induction n with
    | zero =>
      intro i m hc hi hm hinv
      have : i = 5 := by omega
      subst this
      obtain ⟨m, rfl⟩ : ∃ k, m = k + 1 := ⟨m - 1, by omega⟩
      refine ⟨hc, ⟨hinv.1, fun j hj => ?_⟩, ?_⟩
      · obtain ⟨D, a, b⟩ := hinv.2 j hj
        exact ⟨D, a, b hj⟩
      · rw [gi_1]
        dsimp only
        have c9 := c91.fr hinv.1 (by omega)
        have ct := ct1.fr hinv.1 (by omega)
        unfold f_X9_copyFrom_13
        have c5 : Int32.ofNat 5 ≤ Int32.ofNat 5 := by decide
        have c5' : Int32.ofNat 5 ≤ (5 : Int32) := by decide
        rw [c9.e.2.2.2.1, gb_s, ct.ln, gb_s, if_pos c5, gb_s, ct.ln, gb_s, if_pos c5']
    | succ n ih =>
      intro i m hc hi hm hinv
      obtain ⟨m, rfl⟩ : ∃ k, m = k + 1 := ⟨m - 1, by omega⟩
      have c9 := c91.fr hinv.1 (by omega)
      have ct := ct1.fr hinv.1 (by omega)
      have rsc := rs1.fr hinv.1 (fun x _ _ => by omega)
      obtain ⟨D, a, _⟩ := hinv.2 i (by omega)
      obtain ⟨D', a', ar⟩ := rsc.2.2.2.2.2.2.2 i (by omega)
      obtain ⟨E, e, er⟩ := c_copy1 (N := N) a a' (by omega)
      have fE : Fr (fun x => q + 22 + 5 * i ≤ x ∧ x < q + 22 + 5 * i + 5) hc (pt sX1 (q + 22 + 5 * i) E hc) := Fr.of (fun x x1 x2 => by simp only [z1] at x2; omega)
      obtain ⟨h2, k1, k2⟩ := ih (i + 1) m (pt sX1 (q + 22 + 5 * i) E hc) (by omega) (by omega) ⟨hinv.1.tr (fE.up (fun x hx => by omega)), fun j hj => by
        by_cases w : j = i
        · subst w
          exact ⟨E, a.p2, fun _ hk => er _ _ (ar hk)⟩
        · obtain ⟨D2, a2, b2⟩ := hinv.2 j hj
          exact ⟨D2, a2.fr fE (fun x x1 x2 => by simp only [z1] at x2; omega), fun hji hk => b2 (by omega) hk⟩⟩
      refine ⟨h2, k1, ?_⟩
      rw [gi_1]
      generalize hz : gi _ m = zk at k2
      dsimp only
      unfold f_X9_copyFrom_13
      have c5 : ¬ Int32.ofNat 5 ≤ Int32.ofNat i := of_eq_false (nleF (by omega) (by omega) (by omega))
      rw [c9.e.2.2.2.1, gb_s, ct.ln, gb_s, if_neg c5, gb_s, ct.at (by omega), gb_s, rsc.1.e.2.2.2.1, gb_s, rsc.2.2.1.at (by omega), gb_s, a.is rfl, gg_t, e, gb_s, gl_s, n_add1, k2]
      rfl
  obtain ⟨h2, ⟨f2, tr2⟩, k2⟩ := lp 5 0 N h1 (by omega) (by omega) ⟨Fr.rf, fun j hj => by
    obtain ⟨D, a, _⟩ := b8 j hj
    exact ⟨D, a.fr f1 (fun x x1 x2 => by simp only [z1] at x2; omega), fun z => by omega⟩⟩
  have rs2 := rs1.fr f2 (fun x _ _ => by omega)
  have c92 := c91.fr f2 (by omega)
  have ct2 := ct1.fr f2 (by omega)
  have h1e : At sX1 (q + 1) E1 h2 := a1.fr f2 (fun x x1 x2 => by simp only [z1] at x2; omega)
  -- the diary
  obtain ⟨D0, g0, _⟩ := (b4.fr f1 (fun x _ _ => by omega)).fr f2 (fun x _ _ => by omega)
  obtain ⟨D0', g0', g0r⟩ := rs2.2.2.2.1
  obtain ⟨E0, k3, k3r⟩ := c_copy0 (N := N) g0 g0' (by omega) g0r ll
  have f3 : Fr (fun x => q + 7 ≤ x ∧ x < q + 9) h2 (pt sX0 (q + 7) E0 h2) := Fr.of (fun x x1 x2 => by simp only [z0] at x2; omega)
  have a3 : At sX0 (q + 7) E0 (pt sX0 (q + 7) E0 h2) := g0.p2
  generalize hh3 : pt sX0 (q + 7) E0 h2 = h3 at k3 f3 a3
  have rs3 := rs2.fr f3 (fun x _ _ => by omega)
  have c93 := c92.fr f3 (by omega)
  -- sightings
  obtain ⟨D8, g8, _⟩ := ((b5.fr f1 (fun x _ _ => by omega)).fr f2 (fun x _ _ => by omega)).fr f3 (fun x _ _ => by omega)
  obtain ⟨D8', g8', g8n, g8r⟩ := rs3.2.2.2.2.1
  obtain ⟨E8, k4, k4n, k4r⟩ := c_copy8 (N := N) g8 g8' (by omega)
  have f4 : Fr (fun x => q + 9 ≤ x ∧ x < q + 15) h3 (pt sX8 (q + 9) E8 h3) := Fr.of (fun x x1 x2 => by simp only [z8] at x2; omega)
  have a4 : At sX8 (q + 9) E8 (pt sX8 (q + 9) E8 h3) := g8.p2
  generalize hh4 : pt sX8 (q + 9) E8 h3 = h4 at k4 f4 a4
  have rs4 := rs3.fr f4 (fun x _ _ => by omega)
  have c94 := c93.fr f4 (by omega)
  -- the register
  obtain ⟨D6, g6, _⟩ := (((b6.fr f1 (fun x _ _ => by omega)).fr f2 (fun x _ _ => by omega)).fr f3 (fun x _ _ => by omega)).fr f4 (fun x _ _ => by omega)
  obtain ⟨D6', g6', g6r⟩ := rs4.2.2.2.2.2.1
  have k5 : cpI 0 (pl (p + 15) 0) 0 (pl (q + 15) 0) 0 10 (pt sX6 (q + 15) D6 h4) = _ := c_cpO (S := sX6) (D := D6) (j := 0) (c := 10) rfl g6.1 g6' (by simp only [z6]; omega) w6 rfl (by omega) (by omega)
  rw [g6.2] at k5
  have f5 : Fr (fun x => q + 15 ≤ x ∧ x < q + 18) h4 (pt sX6 (q + 15) (sa D6 0 (va_cpy (oa D6' 0) (oa D6 0) 0 0 10)) h4) := Fr.of (fun x x1 x2 => by simp only [z6] at x2; omega)
  have a5 : At sX6 (q + 15) (sa D6 0 (va_cpy (oa D6' 0) (oa D6 0) 0 0 10)) (pt sX6 (q + 15) (sa D6 0 (va_cpy (oa D6' 0) (oa D6 0) 0 0 10)) h4) := g6.p2
  generalize hh5 : pt sX6 (q + 15) (sa D6 0 (va_cpy (oa D6' 0) (oa D6 0) 0 0 10)) h4 = h5 at k5 f5 a5
  have rs5 := rs4.fr f5 (fun x _ _ => by omega)
  have c95 := c94.fr f5 (by omega)
  -- jobs
  obtain ⟨D4, g4, _⟩ := ((((b7.fr f1 (fun x _ _ => by omega)).fr f2 (fun x _ _ => by omega)).fr f3 (fun x _ _ => by omega)).fr f4 (fun x _ _ => by omega)).fr f5 (fun x _ _ => by omega)
  obtain ⟨D4', g4', g4n, g4r⟩ := rs5.2.2.2.2.2.2.1
  obtain ⟨E4, k6, k6n, k6r⟩ := c_copy4 (N := N) g4 g4' (by omega)
  have f6 : Fr (fun x => q + 18 ≤ x ∧ x < q + 22) h5 (pt sX4 (q + 18) E4 h5) := Fr.of (fun x x1 x2 => by simp only [z4] at x2; omega)
  have a6 : At sX4 (q + 18) E4 (pt sX4 (q + 18) E4 h5) := g4.p2
  generalize hh6 : pt sX4 (q + 18) E4 h5 = h6 at k6 f6 a6
  have rs6 := rs5.fr f6 (fun x _ _ => by omega)
  have c96 := c95.fr f6 (by omega)
  -- its own cell
  obtain ⟨D9, g9, g9r, _⟩ := c96
  obtain ⟨D9', g9', g9r', n7, n8, n9, n10⟩ := rs6.1
  have hF9 : q + 1 ≤ h6.length := g9.1
  have oB : ∀ X, At sX9 p D9' (pt sX9 q X h6) := fun X => g9'.out (by simp only [z9]; omega)
  have v7 : ∀ X, gfI 9 7 p (pt sX9 q X h6) = some (oi D9' 7) := fun X => (oB X).gI rfl rfl
  have v8 : ∀ X, gfI 9 8 p (pt sX9 q X h6) = some (oi D9' 8) := fun X => (oB X).gI rfl rfl
  have v9 : ∀ X, gfI 9 9 p (pt sX9 q X h6) = some (oi D9' 9) := fun X => (oB X).gI rfl rfl
  have v10 : ∀ X, gfI 9 10 p (pt sX9 q X h6) = some (oi D9' 10) := fun X => (oB X).gI rfl rfl
  have f7 : Fr (fun x => x = q) h6 (pt sX9 q (si (si (si (si D9 7 (oi D9' 7)) 8 (oi D9' 8)) 9 (oi D9' 9)) 10 (oi D9' 10)) h6) := Fr.of (fun x x1 x2 => by simp only [z9] at x2; omega)
  have a7 : At sX9 q (si (si (si (si D9 7 (oi D9' 7)) 8 (oi D9' 8)) 9 (oi D9' 9)) 10 (oi D9' 10)) (pt sX9 q (si (si (si (si D9 7 (oi D9' 7)) 8 (oi D9' 8)) 9 (oi D9' 9)) 10 (oi D9' 10)) h6) := g9.p2
  refine ⟨pt sX9 q (si (si (si (si D9 7 (oi D9' 7)) 8 (oi D9' 8)) 9 (oi D9' 9)) 10 (oi D9' 10)) h6, ?_, ?_, ?_⟩
  · unfold f_X9_copyFrom
    have k2 : gi (fun zk zs => f_X9_copyFrom_13 N zk zs.1 zs.2.1 zs.2.2.1 zs.2.2.2) N (q, p, 0, h1) = _ := k2
    rw [b1.e.2.2.1, gb_s, rs.1.e.2.2.1, gb_s, d1.is rfl, gg_t, e1, gb_s, k2]
    unfold f_X9_copyFrom_13
    have c5' : Int32.ofNat 5 ≤ (5 : Int32) := by decide
    rw [c92.e.2.2.2.1, gb_s, ct2.ln, gb_s, if_pos c5', c92.e.2.2.2.2.1, gb_s, rs2.1.e.2.2.2.2.1, gb_s, g0.is rfl, gg_t, k3, gb_s, c93.e.2.2.2.2.2.1, gb_s, rs3.1.e.2.2.2.2.2.1, gb_s, g8.is rfl, gg_t, k4, gb_s, rs4.1.e.2.2.2.2.2.2.1, gb_s, g6'.gR (k := 0) rfl rfl, gb_s, c94.e.2.2.2.2.2.2.1, gb_s, g6.gR (k := 0) rfl rfl, gb_s, k5, gb_s, c95.e.2.2.2.2.2.2.2.1, gb_s, rs5.1.e.2.2.2.2.2.2.2.1, gb_s, g4.is rfl, gg_t, k6, gb_s]
    have x1 : h6 = pt sX9 q D9 h6 := g9.2.symm
    rw [x1]
    simp (disch := first | (with_reducible assumption) | (simp only [oi_si, oi_sl, oi_sa, oi_sm, oi_sv, oi_sq, ol_si, ol_sl, ol_sa, ol_sm, ol_sv, ol_sq, oa_si, oa_sl, oa_sa, oa_sm, oa_sv, oa_sq, om_si, om_sl, om_sa, om_sm, om_sv, om_sq, ov_si, ov_sl, ov_sa, ov_sm, ov_sv, ov_sq, oq_si, oq_sl, oq_sa, oq_sm, oq_sv, oq_sq, Nat.reduceEqDiff, ↓reduceIte]; done) | omega | (exact ixn (by omega) (by omega)) | (exact ixl (by decide) (by decide)) | (simp only [pt_len, pl, z0, z1, z2, z3, z4, z5, z6, z7, z8, z9, z10, z11, z12]; omega)) only [↓gb_m, ↓gc_m, ↓gl_s, ↓gg_m, gb_s, gc_s, gg_t, gqm_0, gqm_1, pt_pt, sa_sa, sm_sm, si_si, qk9, qs9_0, qs9_1, qs9_2, qs9_3, qs9_4, qs9_5, qs9_6, qg9_7, qs9_7, qg9_8, qs9_8, qg9_9, qs9_9, qg9_10, qs9_10, oi_si, oi_sl, oi_sa, oi_sm, oi_sv, oi_sq, ol_si, ol_sl, ol_sa, ol_sm, ol_sv, ol_sq, oa_si, oa_sl, oa_sa, oa_sm, oa_sv, oa_sq, om_si, om_sl, om_sa, om_sm, om_sv, om_sq, ov_si, ov_sl, ov_sa, ov_sm, ov_sv, ov_sq, oq_si, oq_sl, oq_sa, oq_sm, oq_sv, oq_sq, Nat.reduceEqDiff, ↓reduceIte, n_add, n_addl, n_ladd, n_add1, n_mul, n_lmul, n_mull, n_sub, n_subl, n_subm, n_lt, n_le, n_eq, n_ltl, n_llt, n_lel, n_lle, n_eql, n_leq, n_m1, n_m1l, n_lt0, n_ge0, i_okc, i_okl, if_true, if_false, not_true, not_false, Nat.not_lt_zero, Nat.zero_le, v7, v8, v9, v10]
  · exact ((((((f1.up (fun x hx => by omega)).tr (f2.up (fun x hx => by omega))).tr (f3.up (fun x hx => by omega))).tr (f4.up (fun x hx => by omega))).tr (f5.up (fun x hx => by omega))).tr (f6.up (fun x hx => by omega))).tr (f7.up (fun x hx => by omega))
  · refine ⟨⟨_, a7, g9r, ?_, ?_, ?_, ?_⟩, ⟨E1, ?_, e1r _ _ s1r⟩, ?_, ⟨E0, ?_, k3r⟩, ⟨E8, ?_, by rw [k4n]; exact g8n, k4r _ (by rw [srt_len]; exact hS.2.2.2.1) g8r⟩, ⟨sa D6 0 (va_cpy (oa D6' 0) (oa D6 0) 0 0 10), ?_, ?_⟩, ⟨E4, ?_, by rw [k6n]; exact g4n, k6r _ hS.2.2.2.2.2.2.1 g4r⟩, ?_⟩
    · simp only [oi_si, oi_sl, oi_sa, oi_sm, oi_sv, oi_sq, ol_si, ol_sl, ol_sa, ol_sm, ol_sv, ol_sq, oa_si, oa_sl, oa_sa, oa_sm, oa_sv, oa_sq, om_si, om_sl, om_sa, om_sm, om_sv, om_sq, ov_si, ov_sl, ov_sa, ov_sm, ov_sv, ov_sq, oq_si, oq_sl, oq_sa, oq_sm, oq_sv, oq_sq, Nat.reduceEqDiff, ↓reduceIte]; exact n7
    · simp only [oi_si, oi_sl, oi_sa, oi_sm, oi_sv, oi_sq, ol_si, ol_sl, ol_sa, ol_sm, ol_sv, ol_sq, oa_si, oa_sl, oa_sa, oa_sm, oa_sv, oa_sq, om_si, om_sl, om_sa, om_sm, om_sv, om_sq, ov_si, ov_sl, ov_sa, ov_sm, ov_sv, ov_sq, oq_si, oq_sl, oq_sa, oq_sm, oq_sv, oq_sq, Nat.reduceEqDiff, ↓reduceIte]; exact n8
    · simp only [oi_si, oi_sl, oi_sa, oi_sm, oi_sv, oi_sq, ol_si, ol_sl, ol_sa, ol_sm, ol_sv, ol_sq, oa_si, oa_sl, oa_sa, oa_sm, oa_sv, oa_sq, om_si, om_sl, om_sa, om_sm, om_sv, om_sq, ov_si, ov_sl, ov_sa, ov_sm, ov_sv, ov_sq, oq_si, oq_sl, oq_sa, oq_sm, oq_sv, oq_sq, Nat.reduceEqDiff, ↓reduceIte]; exact n9
    · simp only [oi_si, oi_sl, oi_sa, oi_sm, oi_sv, oi_sq, ol_si, ol_sl, ol_sa, ol_sm, ol_sv, ol_sq, oa_si, oa_sl, oa_sa, oa_sm, oa_sv, oa_sq, om_si, om_sl, om_sa, om_sm, om_sv, om_sq, ov_si, ov_sl, ov_sa, ov_sm, ov_sv, ov_sq, oq_si, oq_sl, oq_sa, oq_sm, oq_sv, oq_sq, Nat.reduceEqDiff, ↓reduceIte]; exact n10
    · exact ((((h1e.fr f3 (fun x x1 x2 => by simp only [z1] at x2; omega)).fr f4 (fun x x1 x2 => by simp only [z1] at x2; omega)).fr f5 (fun x x1 x2 => by simp only [z1] at x2; omega)).fr f6 (fun x x1 x2 => by simp only [z1] at x2; omega)).fr f7 (fun x x1 x2 => by simp only [z1] at x2; omega)
    · exact ((((ct2.fr f3 (by omega)).fr f4 (by omega)).fr f5 (by omega)).fr f6 (by omega)).fr f7 (by omega)
    · exact (((a3.fr f4 (fun x x1 x2 => by simp only [z0] at x2; omega)).fr f5 (fun x x1 x2 => by simp only [z0] at x2; omega)).fr f6 (fun x x1 x2 => by simp only [z0] at x2; omega)).fr f7 (fun x x1 x2 => by simp only [z0] at x2; omega)
    · exact ((a4.fr f5 (fun x x1 x2 => by simp only [z8] at x2; omega)).fr f6 (fun x x1 x2 => by simp only [z8] at x2; omega)).fr f7 (fun x x1 x2 => by simp only [z8] at x2; omega)
    · exact (a5.fr f6 (fun x x1 x2 => by simp only [z6] at x2; omega)).fr f7 (fun x x1 x2 => by simp only [z6] at x2; omega)
    · intro g hg
      rw [oa_sa, if_pos rfl, cpy_lt hg]
      exact g6r g hg
    · exact a6.fr f7 (fun x x1 x2 => by simp only [z4] at x2; omega)
    · exact ((((tr2.fr f3 (fun x x1 x2 => by omega)).fr f4 (fun x x1 x2 => by omega)).fr f5 (fun x x1 x2 => by omega)).fr f6 (fun x x1 x2 => by omega)).fr f7 (fun x x1 x2 => by omega)
end CSCopy

