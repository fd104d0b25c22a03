/-! The component: ways, answered -/
section CWays2
variable {N : Nat} {h : PH} {a R : Nat}
theorem c_fillRow (hN : 2000 ≤ N) (hR : R ≤ 10) {p : Nat} {D : OD} (hD : At sX6 p D h) (hpa : a < p ∨ p + 3 ≤ a) {f : Nat → Int32} (hA : Ar 0 1024 a f h) {P : Nat → Nat} (hP : ∀ g, P g < 1024) (hr : ∀ g, g < 10 → oa D 0 g = Int32.ofNat (P g)) {w : Option Nat} (hw : ∀ g, w = some g → g < 10) : ∃ f' D', f_X6_fillRow N p a (Int32.ofNat R) (eO w) h = some (Int32.ofNat (pgW P w 10).length, pa 0 1024 a f' (pt sX6 p D' h)) ∧ oa D' 0 = oa D 0 ∧ ∀ s, s < 2 ^ R → f' s = Int32.ofNat (wF R (pgW P w 10) s) := by
  have hF : p + 3 ≤ h.length := hD.1
  have lp : ∀ n g m D, g + n = 10 → n < m → (∀ x, x < 10 → oa D 0 x = Int32.ofNat (P x)) → (∀ (k x : Nat), (pgW P w g)[k]? = some x → oa D 1 k = Int32.ofNat x) → ∃ D', gi (fun zk zs => f_X6_fillRow_6 N zk zs.1 zs.2.1 zs.2.2.1 zs.2.2.2.1 zs.2.2.2.2.1 zs.2.2.2.2.2.1 zs.2.2.2.2.2.2) m (p, a, Int32.ofNat R, eO w, Int32.ofNat (pgW P w g).length, Int32.ofNat g, pt sX6 p D h) = f_X6_fillRow_6 N (fun _ => none) p a (Int32.ofNat R) (eO w) (Int32.ofNat (pgW P w 10).length) 10 (pt sX6 p D' h) ∧ oa D' 0 = oa D 0 ∧ ∀ (k x : Nat), (pgW P w 10)[k]? = some x → oa D' 1 k = Int32.ofNat x := by
    intro n
    induction n with
    | zero =>
      intro g m D hg hm h0 h1
      have : g = 10 := by omega
      subst this
      refine ⟨D, ?_, rfl, h1⟩
      obtain ⟨m, rfl⟩ : ∃ k, m = k + 1 := ⟨m - 1, by omega⟩
      rw [gi_1]
      generalize hz : gi _ m = zk
      dsimp only
      unfold f_X6_fillRow_6
      have c1 : (10 : Int32) ≤ Int32.ofNat 10 := by decide
      have c2 : (10 : Int32) ≤ 10 := by decide
      rw [if_pos c1, if_pos c2]
    | succ n ih =>
      intro g m D hg hm h0 h1
      have gl := pgW_len P w g
      have n1 : ((10 : Int32) ≤ Int32.ofNat g) = False := nleF (a := 10) (by omega) (by omega) (by omega)
      have pg := h0 g (by omega)
      have pg2 := hP g
      have ew : (Int32.ofNat g = eO w) = (some g = w) := by
        have := eO_i (a := some g) (b := w) (fun x hx => by cases hx; omega) (fun x hx => by have := hw x hx; omega)
        exact this
      have es : pgW P w (g + 1) = if P g = 0 then pgW P w g else if w = some g then pgW P w g else pgW P w g ++ [P g] := rfl
      by_cases z : P g = 0
      · rw [if_pos z] at es
        obtain ⟨D', g1, g2⟩ := ih (g + 1) (m - 1) D (by omega) (by omega) h0 (by rw [es]; exact h1)
        rw [es] at g1
        refine ⟨D', ?_, g2⟩
        generalize f_X6_fillRow_6 N (fun _ => none) p a (Int32.ofNat R) (eO w) (Int32.ofNat (pgW P w 10).length) 10 (pt sX6 p D' h) = fin at g1 ⊢
        obtain ⟨m, rfl⟩ : ∃ k, m = k + 1 := ⟨m - 1, by omega⟩
        rw [gi_1]
        generalize hz : gi _ m = zk
        dsimp only
        rw [show m + 1 - 1 = m by omega, hz] at g1
        unfold f_X6_fillRow_6 f_X6_fillRow_46
        have pz : Int32.ofNat (P g) = 0 := by rw [z]; rfl
        simp (disch := first | (with_reducible assumption) | (simp only [oi_si, oi_sl, oi_sa, oi_sm, oi_sv, oi_sq, ol_si, ol_sl, ol_sa, ol_sm, ol_sv, ol_sq, oa_si, oa_sl, oa_sa, oa_sm, oa_sv, oa_sq, om_si, om_sl, om_sa, om_sm, om_sv, om_sq, ov_si, ov_sl, ov_sa, ov_sm, ov_sv, ov_sq, oq_si, oq_sl, oq_sa, oq_sm, oq_sv, oq_sq, Nat.reduceEqDiff, ↓reduceIte]; done) | omega | (exact ixn (by omega) (by omega)) | (exact ixl (by decide) (by decide)) | (simp only [pt_len, pl, z0, z1, z2, z3, z4, z5, z6, z7, z8, z9, z10, z11, z12]; omega)) only [↓gb_m, ↓gc_m, ↓gl_s, ↓gg_m, gb_s, gc_s, gg_t, gqm_0, gqm_1, pt_pt, sa_sa, sm_sm, si_si, qk6, qg6_0, qg6_1, qa6_0, qe6_0, ql6_0, qa6_1, qe6_1, ql6_1, oi_si, oi_sl, oi_sa, oi_sm, oi_sv, oi_sq, ol_si, ol_sl, ol_sa, ol_sm, ol_sv, ol_sq, oa_si, oa_sl, oa_sa, oa_sm, oa_sv, oa_sq, om_si, om_sl, om_sa, om_sm, om_sv, om_sq, ov_si, ov_sl, ov_sa, ov_sm, ov_sv, ov_sq, oq_si, oq_sl, oq_sa, oq_sm, oq_sv, oq_sq, Nat.reduceEqDiff, ↓reduceIte, n_add, n_addl, n_ladd, n_add1, n_mul, n_lmul, n_mull, n_sub, n_subl, n_subm, n_lt, n_le, n_eq, n_ltl, n_llt, n_lel, n_lle, n_eql, n_leq, n_m1, n_m1l, n_lt0, n_ge0, i_okc, i_okl, if_true, if_false, not_true, not_false, Nat.not_lt_zero, Nat.zero_le, n1, pg, pz, g1]
      · rw [if_neg z] at es
        have pz : (Int32.ofNat (P g) = 0) = False := neqF (b := 0) z (by omega) (by omega)
        by_cases y : w = some g
        · rw [if_pos y] at es
          obtain ⟨D', g1, g2⟩ := ih (g + 1) (m - 1) D (by omega) (by omega) h0 (by rw [es]; exact h1)
          rw [es] at g1
          refine ⟨D', ?_, g2⟩
          generalize f_X6_fillRow_6 N (fun _ => none) p a (Int32.ofNat R) (eO w) (Int32.ofNat (pgW P w 10).length) 10 (pt sX6 p D' h) = fin at g1 ⊢
          obtain ⟨m, rfl⟩ : ∃ k, m = k + 1 := ⟨m - 1, by omega⟩
          rw [gi_1]
          generalize hz : gi _ m = zk
          dsimp only
          rw [show m + 1 - 1 = m by omega, hz] at g1
          unfold f_X6_fillRow_6 f_X6_fillRow_46
          have e1 : (Int32.ofNat g = eO w) = True := by rw [ew]; exact eq_true y.symm
          simp (disch := first | (with_reducible assumption) | (simp only [oi_si, oi_sl, oi_sa, oi_sm, oi_sv, oi_sq, ol_si, ol_sl, ol_sa, ol_sm, ol_sv, ol_sq, oa_si, oa_sl, oa_sa, oa_sm, oa_sv, oa_sq, om_si, om_sl, om_sa, om_sm, om_sv, om_sq, ov_si, ov_sl, ov_sa, ov_sm, ov_sv, ov_sq, oq_si, oq_sl, oq_sa, oq_sm, oq_sv, oq_sq, Nat.reduceEqDiff, ↓reduceIte]; done) | omega | (exact ixn (by omega) (by omega)) | (exact ixl (by decide) (by decide)) | (simp only [pt_len, pl, z0, z1, z2, z3, z4, z5, z6, z7, z8, z9, z10, z11, z12]; omega)) only [↓gb_m, ↓gc_m, ↓gl_s, ↓gg_m, gb_s, gc_s, gg_t, gqm_0, gqm_1, pt_pt, sa_sa, sm_sm, si_si, qk6, qg6_0, qg6_1, qa6_0, qe6_0, ql6_0, qa6_1, qe6_1, ql6_1, oi_si, oi_sl, oi_sa, oi_sm, oi_sv, oi_sq, ol_si, ol_sl, ol_sa, ol_sm, ol_sv, ol_sq, oa_si, oa_sl, oa_sa, oa_sm, oa_sv, oa_sq, om_si, om_sl, om_sa, om_sm, om_sv, om_sq, ov_si, ov_sl, ov_sa, ov_sm, ov_sv, ov_sq, oq_si, oq_sl, oq_sa, oq_sm, oq_sv, oq_sq, Nat.reduceEqDiff, ↓reduceIte, n_add, n_addl, n_ladd, n_add1, n_mul, n_lmul, n_mull, n_sub, n_subl, n_subm, n_lt, n_le, n_eq, n_ltl, n_llt, n_lel, n_lle, n_eql, n_leq, n_m1, n_m1l, n_lt0, n_ge0, i_okc, i_okl, if_true, if_false, not_true, not_false, Nat.not_lt_zero, Nat.zero_le, n1, pg, pz, e1, g1]
        · rw [if_neg y] at es
          obtain ⟨D', g1, g2, g3⟩ := ih (g + 1) (m - 1) (sa D 1 (upd (oa D 1) (pgW P w g).length (Int32.ofNat (P g)))) (by omega) (by omega) (by intro x hx; rw [oa_sa, if_neg (by decide)]; exact h0 x hx) (by
            rw [es]
            intro k x hk
            rw [oa_sa, if_pos rfl]
            rcases Nat.lt_or_ge k (pgW P w g).length with u | u
            · rw [List.getElem?_append_left u] at hk
              rw [upd_ne (by omega)]
              exact h1 k x hk
            · have := ln_of hk
              rw [List.length_append] at this
              have this : k < (pgW P w g).length + 1 := this
              have hj : k = (pgW P w g).length := by omega
              subst hj
              rw [List.getElem?_append_right (Nat.le_refl _), Nat.sub_self] at hk
              cases hk
              rw [upd_eq rfl])
          have le : (pgW P w (g + 1)).length = (pgW P w g).length + 1 := by rw [es, List.length_append]; rfl
          rw [le] at g1
          refine ⟨D', ?_, by rw [g2, oa_sa, if_neg (by decide)], g3⟩
          generalize f_X6_fillRow_6 N (fun _ => none) p a (Int32.ofNat R) (eO w) (Int32.ofNat (pgW P w 10).length) 10 (pt sX6 p D' h) = fin at g1 ⊢
          obtain ⟨m, rfl⟩ : ∃ k, m = k + 1 := ⟨m - 1, by omega⟩
          rw [gi_1]
          generalize hz : gi _ m = zk
          dsimp only
          rw [show m + 1 - 1 = m by omega, hz] at g1
          unfold f_X6_fillRow_6 f_X6_fillRow_46
          have e1 : (Int32.ofNat g = eO w) = False := by rw [ew]; exact eq_false (fun z => y z.symm)
          simp (disch := first | (with_reducible assumption) | (simp only [oi_si, oi_sl, oi_sa, oi_sm, oi_sv, oi_sq, ol_si, ol_sl, ol_sa, ol_sm, ol_sv, ol_sq, oa_si, oa_sl, oa_sa, oa_sm, oa_sv, oa_sq, om_si, om_sl, om_sa, om_sm, om_sv, om_sq, ov_si, ov_sl, ov_sa, ov_sm, ov_sv, ov_sq, oq_si, oq_sl, oq_sa, oq_sm, oq_sv, oq_sq, Nat.reduceEqDiff, ↓reduceIte]; done) | omega | (exact ixn (by omega) (by omega)) | (exact ixl (by decide) (by decide)) | (simp only [pt_len, pl, z0, z1, z2, z3, z4, z5, z6, z7, z8, z9, z10, z11, z12]; omega)) only [↓gb_m, ↓gc_m, ↓gl_s, ↓gg_m, gb_s, gc_s, gg_t, gqm_0, gqm_1, pt_pt, sa_sa, sm_sm, si_si, qk6, qg6_0, qg6_1, qa6_0, qe6_0, ql6_0, qa6_1, qe6_1, ql6_1, oi_si, oi_sl, oi_sa, oi_sm, oi_sv, oi_sq, ol_si, ol_sl, ol_sa, ol_sm, ol_sv, ol_sq, oa_si, oa_sl, oa_sa, oa_sm, oa_sv, oa_sq, om_si, om_sl, om_sa, om_sm, om_sv, om_sq, ov_si, ov_sl, ov_sa, ov_sm, ov_sv, ov_sq, oq_si, oq_sl, oq_sa, oq_sm, oq_sv, oq_sq, Nat.reduceEqDiff, ↓reduceIte, n_add, n_addl, n_ladd, n_add1, n_mul, n_lmul, n_mull, n_sub, n_subl, n_subm, n_lt, n_le, n_eq, n_ltl, n_llt, n_lel, n_lle, n_eql, n_leq, n_m1, n_m1l, n_lt0, n_ge0, i_okc, i_okl, if_true, if_false, not_true, not_false, Nat.not_lt_zero, Nat.zero_le, n1, pg, pz, e1, gnar_0, g1]
  obtain ⟨D', g1, g2, g3⟩ := lp 10 0 N D (by omega) (by omega) hr (fun k x hk => by cases hk)
  rw [hD.2] at g1
  have al : a < h.length := hA.ln
  have D1 : At sX6 p D' (pt sX6 p D' h) := hD.p2
  have A1 : Ar 0 1024 a f (pt sX6 p D' h) := hA.fr (Fr.of (P := fun x => p ≤ x ∧ x < p + 3) (fun x x1 x2 => by simp only [z6] at x2; omega)) (by omega)
  have al1 : a < (pt sX6 p D' h).length := A1.ln
  have A2 : Ar 0 1024 a (fil 1024 0 f) (pa 0 1024 a (fil 1024 0 f) (pt sX6 p D' h)) := Ar.p2 al1
  have i0 : ixok (0 : Int32) 1024 := ixn (k := 0) (by omega) (by omega)
  have sl := A2.eI (x := 1) i0
  rw [pa_pa] at sl
  have e0 : Int32.toNatClampNeg 0 = 0 := by decide
  rw [e0, gnar_0] at sl
  have lK := pgW_len P w 10
  obtain ⟨f', r1, r2⟩ := c_row64 (N := N) (h := pt sX6 p D' h) (ps := pgW P w 10) hN al1 hR D1 hpa lK (fun x hx => pgW_lt hP w 10 x hx) g3 (2 ^ R) 0 N (upd (fil 1024 0 f) 0 1) (by omega) (by
    have : 2 ^ R ≤ 2 ^ 10 := Nat.pow_le_pow_right (by omega) hR
    have : 2 ^ R ≤ 1024 := this
    omega) (by
    intro s hs
    rw [wH_00]
    by_cases z : s = 0
    · subst z; rw [upd_eq rfl]; rfl
    · rw [upd_ne z, if_neg z]
      unfold fil
      rw [if_pos hs]
      rfl)
  refine ⟨f', D', ?_, g2, r2⟩
  unfold f_X6_fillRow
  have g1 : gi (fun zk zs => f_X6_fillRow_6 N zk zs.1 zs.2.1 zs.2.2.1 zs.2.2.2.1 zs.2.2.2.2.1 zs.2.2.2.2.2.1 zs.2.2.2.2.2.2) N (p, a, Int32.ofNat R, eO w, 0, 0, h) = _ := g1
  rw [g1]
  unfold f_X6_fillRow_6
  have c2 : (10 : Int32) ≤ 10 := by decide
  rw [if_pos c2, c_fill (by omega) hN A1, gb_s, sl, gb_s]
  exact r1
theorem c_beside (hN : 2000 ≤ N) (hR : R ≤ 10) {f : Nat → Int32} (hA : Ar 0 1024 a f h) {F : Nat → Nat} (hf : ∀ s, s < 2 ^ R → f s = Int32.ofNat (F s)) {K : Nat} (hK : K ≤ 10) {fb : Int32} {q : Nat → Bool} (hq : ∀ s, s < 1024 → (Int32.ofNat s &&& fb = 0) = (q s = true)) : f_X6_waysBeside N fb (Int32.ofNat K) a (Int32.ofNat R) h = some (Int32.ofNat (wsum (fun s => if cn s = K ∧ q s = true then F s else 0) (2 ^ R)), h) := by
  have pl : 2 ^ R ≤ 2 ^ 10 := Nat.pow_le_pow_right (by omega) hR
  have pl : 2 ^ R ≤ 1024 := pl
  have sh := shl1 R (by omega)
  have lp : ∀ n u m, u + n = 2 ^ R → n < m → gi (fun zk zs => f_X6_waysBeside_6 N zk zs.1 zs.2.1 zs.2.2.1 zs.2.2.2.1 zs.2.2.2.2.1 zs.2.2.2.2.2.1 zs.2.2.2.2.2.2) m (fb, Int32.ofNat K, a, Int32.ofNat R, Int32.ofNat (wsum (fun s => if cn s = K ∧ q s = true then F s else 0) u), Int32.ofNat u, h) = some (Int32.ofNat (wsum (fun s => if cn s = K ∧ q s = true then F s else 0) (2 ^ R)), h) := by
    intro n
    induction n with
    | zero =>
      intro u m hu hm
      have : u = 2 ^ R := by omega
      subst this
      obtain ⟨m, rfl⟩ : ∃ k, m = k + 1 := ⟨m - 1, by omega⟩
      rw [gi_1]
      generalize hz : gi _ m = zk
      dsimp only
      unfold f_X6_waysBeside_6
      rw [sh, if_pos (of_eq_true (nleT (Nat.le_refl _) (by omega) (by omega)))]
    | succ n ih =>
      intro u m hu hm
      have n1 : ¬ Int32.ofNat (2 ^ R) ≤ Int32.ofNat u := of_eq_false (nleF (by omega) (by omega) (by omega))
      have bc : f_J6_bitCount_0f7a4 N (Int32.ofNat u) h = some (Int32.ofNat (cn u), h) := c_bitCount (N := N) (h := h) (n := u) (by omega)
      have cnl : cn u ≤ 10 := cntB_le _ _
      have ih2 := ih (u + 1) (m - 1) (by omega) (by omega)
      rw [show wsum (fun s => if cn s = K ∧ q s = true then F s else 0) (u + 1) = wsum (fun s => if cn s = K ∧ q s = true then F s else 0) u + (if cn u = K ∧ q u = true then F u else 0) from rfl] at ih2
      obtain ⟨m, rfl⟩ : ∃ k, m = k + 1 := ⟨m - 1, by omega⟩
      rw [gi_1]
      generalize hz : gi _ m = zk
      dsimp only
      rw [show m + 1 - 1 = m by omega, hz] at ih2
      unfold f_X6_waysBeside_6 f_X6_waysBeside_39
      rw [sh, if_neg n1, bc, gc_s]
      by_cases z : cn u = K
      · rw [if_pos (by rw [z])]
        by_cases y : q u = true
        · have y2 : Int32.ofNat u &&& fb = 0 := by rw [hq u (by omega)]; exact y
          rw [if_pos ⟨z, y⟩] at ih2
          rw [if_pos y2, hA.aI (ixn (by omega) (by omega)), gb_s, i_okc (by omega), hf u (by omega), gl_s, gl_s, n_add, n_add1]
          exact ih2
        · have y2 : ¬ Int32.ofNat u &&& fb = 0 := by rw [hq u (by omega)]; exact y
          rw [if_neg (fun x => y x.2), Nat.add_zero] at ih2
          rw [if_neg y2, gl_s, n_add1]
          exact ih2
      · rw [if_neg (fun x => z x.1), Nat.add_zero] at ih2
        rw [if_neg (of_eq_false (neqF z (by omega) (by omega))), gl_s, n_add1]
        exact ih2
  exact lp (2 ^ R) 0 N (by omega) (by omega)
end CWays2
theorem w_tot {R : Nat} (hR : R ≤ 10) (ps : List Nat) : wsum (fun s => if cn s = ps.length ∧ true = true then wF R ps s else 0) (2 ^ R) = wsum (wRun R ps) 1024 := by
  have pl : 2 ^ R ≤ 2 ^ 10 := Nat.pow_le_pow_right (by omega) hR
  have pl : 2 ^ R ≤ 1024 := pl
  have e1 : wsum (fun s => if cn s = ps.length ∧ true = true then wF R ps s else 0) (2 ^ R) = wsum (wRun R ps) (2 ^ R) := by
    refine wsum_ext _ (fun s hs => ?_)
    by_cases z : cn s = ps.length
    · rw [if_pos ⟨z, rfl⟩]
      unfold wF
      rw [z, List.take_length]
    · rw [if_neg (fun x => z x.1)]
      rcases Nat.eq_zero_or_pos (wRun R ps s) with y | y
      · exact y.symm
      · exact absurd (w_sup (R := R) ps.length ps rfl s (by omega) y).1 z
  have e2 : ∀ n, 2 ^ R ≤ n → n ≤ 1024 → wsum (wRun R ps) n = wsum (wRun R ps) (2 ^ R) := by
    intro n
    induction n with
    | zero => intro h1 _; have := Nat.two_pow_pos R; omega
    | succ n ih =>
      intro h1 h2
      by_cases z : 2 ^ R = n + 1
      · rw [z]
      · show wsum (wRun R ps) n + wRun R ps n = _
        have : wRun R ps n = 0 := by
          rcases Nat.eq_zero_or_pos (wRun R ps n) with y | y
          · exact y
          · have := (w_sup (R := R) ps.length ps rfl n (by omega) y).2
            omega
        rw [this, Nat.add_zero]
        exact ih (by omega) (by omega)
  rw [e1, e2 1024 pl (Nat.le_refl _)]
theorem w_totle {R : Nat} (hR : R ≤ 10) (ps : List Nat) : wsum (wRun R ps) 1024 ≤ 20000000 := Nat.le_trans (wsum_mono 1024 (fun s hs => w_fac hR _ ps rfl s hs)) fac_sum

