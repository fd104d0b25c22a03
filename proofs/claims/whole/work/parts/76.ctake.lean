/-! The component: coming and leaving -/
theorem hE_sh {I : IA} : ∀ (r : Nat) (H : HA), hE (shS I r H) = hE H := by
  intro r
  induction r with
  | zero => intro H; rfl
  | succ r ih => intro H; unfold shS; rw [ih]; rfl
theorem hE_fill {I : IA} {rule : Nat} : ∀ (f gap : Nat) (H : HA), hE (fillS I rule f gap H) = hE H := by
  intro f
  induction f with
  | zero => intro gap H; rfl
  | succ f ih =>
    intro gap H
    unfold fillS
    split
    · rfl
    · rw [ih]; rfl
theorem hE_leave {I : IA} {g : Nat} {rule : Option Nat} {H : HA} : hE (leaveS I g rule H) = hE H := by
  unfold leaveS
  split
  · rw [hE_fill]; rfl
  · rfl
theorem hE_come {I : IA} {g : Nat} {H : HA} : hE (comeS I g H) = fu (hE H) g true := by
  unfold comeS
  rw [hE_go, hE_sh]
  rfl
/-- how late it may be -/
def LC (n : Nat) (H : HA) : Prop := (hL H).length + n ≤ 1000 ∧ hC H ≤ 99999 + 28 * (hL H).length
theorem LC.go {n : Nat} {I : IA} (hI : IOk I) {H : HA} {g : Nat} {fr to : Option Nat} (hG : GoOk I H g fr to) (h : LC (n + 1) H) : LC n (goS I g fr to H) := by
  have := miD_le hI hG.2.1 hG.fr hG.to
  unfold LC at *
  rw [hC_go, hL_len]
  omega
section CTake
variable {N : Nat} {h : PH} {I : IA}
/-- what is said of the diary's place -/
def DP (p q : Nat) (dia : Option Nat) (h : PH) : Prop := ∀ d, dia = some d → d + 2 ≤ h.length ∧ (d + 2 ≤ p ∨ p + 5 ≤ d) ∧ (d + 2 ≤ q ∨ q + 7 ≤ d)
theorem c_goQ {p q : Nat} {D E G : OD} {dia : Option Nat} {H : HA} {n : Nat} (hF : p + 5 ≤ h.length) (hE : At sX2 q E h) (hI : RepIC I E) (hpq : p + 5 ≤ q ∨ q + 7 ≤ p) (hdp : DP p q dia h) (hR : RepG I H D) (hRD : ∀ d, dia = some d → RepD H G ∧ LC (n + 1) H) {g : Nat} {fr to : Option Nat} (hG : GoOk I H g fr to) :
    ∃ D' G', f_X1_go N p q (Int32.ofNat g) (eO to) dia (pt sX1 p D (pd dia G h)) = some (pt sX1 p D' (pd dia G' h)) ∧ RepG I (goS I g fr to H) D' ∧ Keep [0, 1, 2, 3, 4, 5, 6, 7] D D' ∧ ∀ d, dia = some d → RepD (goS I g fr to H) G' ∧ LC n (goS I g fr to H) := by
  obtain ⟨D', G', a1, a2, a3, a4⟩ := c_go (N := N) hF hE hI hpq (fun d hd => (hdp d hd).2.2) (fun d hd => ⟨(hdp d hd).1, (hdp d hd).2.1, (hRD d hd).1, by have := (hRD d hd).2.1; omega, by have := (hRD d hd).2; unfold LC at this; omega⟩) hR hG
  exact ⟨D', G', a1, a2, a3, fun d hd => ⟨a4 d hd, (hRD d hd).2.go hI.1 hG⟩⟩
/-- moving on, room by room -/
theorem c_take43 {p q : Nat} {E : OD} {dia : Option Nat} (hF : p + 5 ≤ h.length) (hE : At sX2 q E h) (hI : RepIC I E) (hpq : p + 5 ≤ q ∨ q + 7 ≤ p) (hdp : DP p q dia h) {g n : Nat} (hg : g < iG I) : ∀ (r : Nat) (H : HA) (D G : OD) (m : Nat), HOk I H → ¬ inH H g → r < iR I → hO H r = none → (∀ k, k < r → hO H k ≠ none) → RepG I H D → (∀ d, dia = some d → RepD H G ∧ LC (n + r + 1) H) → r < m →
    ∃ D' G', gi (fun zk zs => f_X1_takeIn_43 N zk zs.1 zs.2.1 zs.2.2.1 zs.2.2.2.1 zs.2.2.2.2.1 zs.2.2.2.2.2) m (p, q, Int32.ofNat g, dia, Int32.ofNat r, pt sX1 p D (pd dia G h)) = some (pt sX1 p (si (si D' 8 (oi D 8 + 1)) 9 (oi D 9 ||| (1 : Int32) <<< (Int32.ofNat g &&& 31))) (pd dia G' h)) ∧ RepG I (goS I g none (some 0) (shS I r H)) D' ∧ ∀ d, dia = some d → RepD (goS I g none (some 0) (shS I r H)) G' ∧ LC n (goS I g none (some 0) (shS I r H)) := by
  intro r
  induction r with
  | zero =>
    intro H D G m hH hn hr h0 hb hR hRD hm
    have hG : GoOk I H g none (some 0) := ⟨hH, hg, fun r hr => (by cases hr), fun _ => hn, fun r hr2 => (by cases hr2; exact ⟨hr, h0⟩)⟩
    obtain ⟨D', G', a1, a2, a3, a4⟩ := c_goQ (N := N) hF hE hI hpq hdp hR hRD hG
    have a1 : f_X1_go N p q (Int32.ofNat g) 0 dia (pt sX1 p D (pd dia G h)) = _ := a1
    refine ⟨D', G', ?_, a2, a4⟩
    have hFd : ∀ G, p + 5 ≤ (pd dia G h).length := fun G => by rw [pd_len]; exact hF
    have h1 := hFd G
    have h2 := hFd G'
    have e8 : oi D' 8 = oi D 8 := a3.i (by decide)
    have e9 : oi D' 9 = oi D 9 := a3.i (by decide)
    have z : ((0 : Int32) ≤ 0) = True := eq_true (by decide)
    obtain ⟨m, rfl⟩ : ∃ k, m = k + 1 := ⟨m - 1, by omega⟩
    rw [gi_1]
    generalize hz : gi _ m = zk
    dsimp only
    unfold f_X1_takeIn_43
    have r0 : Int32.ofNat 0 = 0 := rfl
    rw [r0]
    simp (disch := first | (with_reducible assumption) | (simp only [oi_si, oi_sl, oi_sa, oi_sm, oi_sv, oi_sq, ol_si, ol_sl, ol_sa, ol_sm, ol_sv, ol_sq, oa_si, oa_sl, oa_sa, oa_sm, oa_sv, oa_sq, om_si, om_sl, om_sa, om_sm, om_sv, om_sq, ov_si, ov_sl, ov_sa, ov_sm, ov_sv, ov_sq, oq_si, oq_sl, oq_sa, oq_sm, oq_sv, oq_sq, Nat.reduceEqDiff, ↓reduceIte]; done) | omega | (exact ixn (by omega) (by omega)) | (exact ixl (by decide) (by decide)) | (simp only [pt_len, pl, z0, z1, z2, z3, z4, z5, z6, z7, z8, z9, z10, z11, z12]; omega)) only [↓gb_m, ↓gc_m, ↓gl_s, ↓gg_m, gb_s, gc_s, gg_t, gqm_0, gqm_1, pt_pt, sa_sa, sm_sm, si_si, qk1, qg1_0, qg1_1, qg1_2, qg1_3, qg1_4, qs1_4, qg1_5, qs1_5, qg1_6, qs1_6, qg1_7, qs1_7, qg1_8, qs1_8, qg1_9, qs1_9, qa1_0, qe1_0, ql1_0, qa1_1, qe1_1, ql1_1, qa1_2, qe1_2, ql1_2, qa1_3, qe1_3, ql1_3, oi_si, oi_sl, oi_sa, oi_sm, oi_sv, oi_sq, ol_si, ol_sl, ol_sa, ol_sm, ol_sv, ol_sq, oa_si, oa_sl, oa_sa, oa_sm, oa_sv, oa_sq, om_si, om_sl, om_sa, om_sm, om_sv, om_sq, ov_si, ov_sl, ov_sa, ov_sm, ov_sv, ov_sq, oq_si, oq_sl, oq_sa, oq_sm, oq_sv, oq_sq, Nat.reduceEqDiff, ↓reduceIte, n_add, n_addl, n_ladd, n_add1, n_mul, n_lmul, n_mull, n_sub, n_subl, n_subm, n_lt, n_le, n_eq, n_ltl, n_llt, n_lel, n_lle, n_eql, n_leq, n_m1, n_m1l, n_lt0, n_ge0, i_okc, i_okl, if_true, if_false, not_true, not_false, Nat.not_lt_zero, Nat.zero_le, z, a1, e8, e9]
  | succ r ih =>
    intro H D G m hH hn hr h0 hb hR hRD hm
    have b1 := hI.1.1
    have b2 := hI.1.2.1
    obtain ⟨x, hx⟩ : ∃ x, hO H r = some x := Option.ne_none_iff_exists'.mp (hb r (by omega))
    have xl := hH.lt hx
    have hG : GoOk I H x (some r) (some (r + 1)) := ⟨hH, xl.2, fun a ha => (by cases ha; exact ⟨xl.1, hx⟩), fun z => (by cases z), fun a ha => (by cases ha; exact ⟨hr, h0⟩)⟩
    obtain ⟨D', G', a1, a2, a3, a4⟩ := c_goQ (N := N) (n := n + r + 1) hF hE hI hpq hdp hR (fun d hd => ⟨(hRD d hd).1, by have := (hRD d hd).2; unfold LC at *; omega⟩) hG
    rw [eO_s] at a1
    have h1 := go_in hH (g := x) (fr := some r) (s := r + 1) (fun a ha => by cases ha; exact hx) (fun z => by cases z) hr h0 xl.2
    have h2 : ∀ k, hO (goS I x (some r) (some (r + 1)) H) k = if k = r + 1 then some x else if k = r then none else hO H k := by
      intro k
      rw [hO_go, oPut_ss, fu_at, fu_at]
    obtain ⟨D2, G2, c1, c2, c3⟩ := ih (goS I x (some r) (some (r + 1)) H) D' G' (m - 1) h1.1 (fun z => by
        rcases (h1.2 g).mp z with y | y
        · rw [y] at hn
          exact hn ⟨r, hx⟩
        · exact hn y) (by omega) (by rw [h2, if_neg (by omega), if_pos rfl]) (fun k hk => by rw [h2, if_neg (by omega), if_neg (by omega)]; exact hb k (by omega)) a2 a4 (by omega)
    have es : shS I (r + 1) H = shS I r (goS I x (some r) (some (r + 1)) H) := by
      show shS I r (goS I ((hO H r).getD 0) (some r) (some (r + 1)) H) = _
      rw [hx]
      rfl
    rw [es]
    refine ⟨D2, G2, ?_, c2, c3⟩
    have e8 : oi D' 8 = oi D 8 := a3.i (by decide)
    have e9 : oi D' 9 = oi D 9 := a3.i (by decide)
    rw [e8, e9] at c1
    have hFd : ∀ G, p + 5 ≤ (pd dia G h).length := fun G => by rw [pd_len]; exact hF
    have hq1 := hFd G
    have q0 := hR.1 r (by omega)
    rw [hx, eO_s] at q0
    have z : (Int32.ofNat (r + 1) ≤ 0) = False := nleF (b := 0) (by omega) (by omega) (by omega)
    obtain ⟨m, rfl⟩ : ∃ k, m = k + 1 := ⟨m - 1, by omega⟩
    rw [gi_1]
    generalize hz : gi _ m = zk
    dsimp only
    rw [show m + 1 - 1 = m by omega, hz] at c1
    unfold f_X1_takeIn_43
    simp (disch := first | (with_reducible assumption) | (simp only [oi_si, oi_sl, oi_sa, oi_sm, oi_sv, oi_sq, ol_si, ol_sl, ol_sa, ol_sm, ol_sv, ol_sq, oa_si, oa_sl, oa_sa, oa_sm, oa_sv, oa_sq, om_si, om_sl, om_sa, om_sm, om_sv, om_sq, ov_si, ov_sl, ov_sa, ov_sm, ov_sv, ov_sq, oq_si, oq_sl, oq_sa, oq_sm, oq_sv, oq_sq, Nat.reduceEqDiff, ↓reduceIte]; done) | omega | (exact ixn (by omega) (by omega)) | (exact ixl (by decide) (by decide)) | (simp only [pt_len, pl, z0, z1, z2, z3, z4, z5, z6, z7, z8, z9, z10, z11, z12]; omega)) only [↓gb_m, ↓gc_m, ↓gl_s, ↓gg_m, gb_s, gc_s, gg_t, gqm_0, gqm_1, pt_pt, sa_sa, sm_sm, si_si, qk1, qg1_0, qg1_1, qg1_2, qg1_3, qg1_4, qs1_4, qg1_5, qs1_5, qg1_6, qs1_6, qg1_7, qs1_7, qg1_8, qs1_8, qg1_9, qs1_9, qa1_0, qe1_0, ql1_0, qa1_1, qe1_1, ql1_1, qa1_2, qe1_2, ql1_2, qa1_3, qe1_3, ql1_3, oi_si, oi_sl, oi_sa, oi_sm, oi_sv, oi_sq, ol_si, ol_sl, ol_sa, ol_sm, ol_sv, ol_sq, oa_si, oa_sl, oa_sa, oa_sm, oa_sv, oa_sq, om_si, om_sl, om_sa, om_sm, om_sv, om_sq, ov_si, ov_sl, ov_sa, ov_sm, ov_sv, ov_sq, oq_si, oq_sl, oq_sa, oq_sm, oq_sv, oq_sq, Nat.reduceEqDiff, ↓reduceIte, n_add, n_addl, n_ladd, n_add1, n_mul, n_lmul, n_mull, n_sub, n_subl, n_subm, n_lt, n_le, n_eq, n_ltl, n_llt, n_lel, n_lle, n_eql, n_leq, n_m1, n_m1l, n_lt0, n_ge0, i_okc, i_okl, if_true, if_false, not_true, not_false, Nat.not_lt_zero, Nat.zero_le, z, Nat.add_sub_cancel, q0, a1, c1]
/-- taking in: there is room -/
theorem c_takeIn {p q : Nat} {D E G : OD} {dia : Option Nat} {H : HA} {n : Nat} (hN : 2000 ≤ N) (hF : p + 5 ≤ h.length) (hE : At sX2 q E h) (hI : RepIC I E) (hpq : p + 5 ≤ q ∨ q + 7 ≤ p) (hdp : DP p q dia h) {g : Nat} (hg : g < iG I) (hH : HOk I H) (hn : ¬ inH H g) (hf : gapS I H < iR I) (hR : RepH I H D) (hRD : ∀ d, dia = some d → RepD H G ∧ LC (n + 10) H) :
    ∃ D' G', f_X1_takeIn N p q (Int32.ofNat g) dia (pt sX1 p D (pd dia G h)) = some (pt sX1 p D' (pd dia G' h)) ∧ RepH I (comeS I g H) D' ∧ ∀ d, dia = some d → RepD (comeS I g H) G' ∧ LC n (comeS I g H) := by
  obtain ⟨r1, r2, r3⟩ := hR
  obtain ⟨b1, b2, b3⟩ := gap_spec (I := I) (H := H)
  have i1 := hI.1.1
  have i2 := hI.1.2.1
  have hFd : p + 5 ≤ (pd dia G h).length := by rw [pd_len]; exact hF
  have hEd : At sX2 q E (pt sX1 p D (pd dia G h)) := (hE.pd (fun d hq => by simp only [z2]; have := (hdp d hq).2.2; omega)).out (by simp only [z1, z2]; omega)
  have e0 : gfI 2 0 q (pt sX1 p D (pd dia G h)) = some (Int32.ofNat (iR I)) := by rw [hEd.gI (k := 0) rfl rfl, hI.2.1]
  obtain ⟨D', G', a1, a2, a3⟩ := c_take43 (N := N) hF hE hI hpq hdp (n := n) hg (gapS I H) (hEv g H) D G N hH (fun z => hn z) hf (b3 hf) b2 r1 (fun d hd => ⟨(hRD d hd).1, by have := (hRD d hd).2; unfold LC at *; show (hL H).length + _ ≤ _ ∧ hC H ≤ _ + 28 * (hL H).length; omega⟩) (by omega)
  refine ⟨si (si D' 8 (oi D 8 + 1)) 9 (oi D 9 ||| (1 : Int32) <<< (Int32.ofNat g &&& 31)), G', ?_, ⟨a2, ?_, ?_⟩, a3⟩
  · have lp : ∀ d k m, k + d = gapS I H → d < m → gi (fun zk zs => f_X1_takeIn_3 N zk zs.1 zs.2.1 zs.2.2.1 zs.2.2.2.1 zs.2.2.2.2.1 zs.2.2.2.2.2) m (p, q, Int32.ofNat g, dia, Int32.ofNat k, pt sX1 p D (pd dia G h)) = f_X1_takeIn_29 N p q (Int32.ofNat g) dia (Int32.ofNat (gapS I H)) (pt sX1 p D (pd dia G h)) := by
      intro d
      induction d with
      | zero =>
        intro k m hk hm
        have : k = gapS I H := by omega
        subst this
        have q0 := r1.1 (gapS I H) (by omega)
        rw [b3 hf, eO_n] at q0
        have z : (Int32.ofNat (iR I) ≤ Int32.ofNat (gapS I H)) = False := nleF (by omega) (by omega) (by omega)
        obtain ⟨m, rfl⟩ : ∃ k, m = k + 1 := ⟨m - 1, by omega⟩
        rw [gi_1]
        generalize hz : gi _ m = zk
        dsimp only
        unfold f_X1_takeIn_3
        simp (disch := first | (with_reducible assumption) | (simp only [oi_si, oi_sl, oi_sa, oi_sm, oi_sv, oi_sq, ol_si, ol_sl, ol_sa, ol_sm, ol_sv, ol_sq, oa_si, oa_sl, oa_sa, oa_sm, oa_sv, oa_sq, om_si, om_sl, om_sa, om_sm, om_sv, om_sq, ov_si, ov_sl, ov_sa, ov_sm, ov_sv, ov_sq, oq_si, oq_sl, oq_sa, oq_sm, oq_sv, oq_sq, Nat.reduceEqDiff, ↓reduceIte]; done) | omega | (exact ixn (by omega) (by omega)) | (exact ixl (by decide) (by decide)) | (simp only [pt_len, pl, z0, z1, z2, z3, z4, z5, z6, z7, z8, z9, z10, z11, z12]; omega)) only [↓gb_m, ↓gc_m, ↓gl_s, ↓gg_m, gb_s, gc_s, gg_t, gqm_0, gqm_1, pt_pt, sa_sa, sm_sm, si_si, qk1, qg1_0, qg1_1, qg1_2, qg1_3, qg1_4, qs1_4, qg1_5, qs1_5, qg1_6, qs1_6, qg1_7, qs1_7, qg1_8, qs1_8, qg1_9, qs1_9, qa1_0, qe1_0, ql1_0, qa1_1, qe1_1, ql1_1, qa1_2, qe1_2, ql1_2, qa1_3, qe1_3, ql1_3, oi_si, oi_sl, oi_sa, oi_sm, oi_sv, oi_sq, ol_si, ol_sl, ol_sa, ol_sm, ol_sv, ol_sq, oa_si, oa_sl, oa_sa, oa_sm, oa_sv, oa_sq, om_si, om_sl, om_sa, om_sm, om_sv, om_sq, ov_si, ov_sl, ov_sa, ov_sm, ov_sv, ov_sq, oq_si, oq_sl, oq_sa, oq_sm, oq_sv, oq_sq, Nat.reduceEqDiff, ↓reduceIte, n_add, n_addl, n_ladd, n_add1, n_mul, n_lmul, n_mull, n_sub, n_subl, n_subm, n_lt, n_le, n_eq, n_ltl, n_llt, n_lel, n_lle, n_eql, n_leq, n_m1, n_m1l, n_lt0, n_ge0, i_okc, i_okl, if_true, if_false, not_true, not_false, Nat.not_lt_zero, Nat.zero_le, e0, z, q0]
      | succ d ih =>
        intro k m hk hm
        have ih2 := ih (k + 1) (m - 1) (by omega) (by omega)
        obtain ⟨x, hx⟩ : ∃ x, hO H k = some x := Option.ne_none_iff_exists'.mp (b2 k (by omega))
        have xl := hH.lt hx
        have q0 := r1.1 k (by omega)
        rw [hx, eO_s] at q0
        have z : (Int32.ofNat (iR I) ≤ Int32.ofNat k) = False := nleF (by omega) (by omega) (by omega)
        obtain ⟨m, rfl⟩ : ∃ k, m = k + 1 := ⟨m - 1, by omega⟩
        rw [gi_1]
        generalize hz : gi _ m = zk
        dsimp only
        rw [show m + 1 - 1 = m by omega, hz] at ih2
        unfold f_X1_takeIn_3
        simp (disch := first | (with_reducible assumption) | (simp only [oi_si, oi_sl, oi_sa, oi_sm, oi_sv, oi_sq, ol_si, ol_sl, ol_sa, ol_sm, ol_sv, ol_sq, oa_si, oa_sl, oa_sa, oa_sm, oa_sv, oa_sq, om_si, om_sl, om_sa, om_sm, om_sv, om_sq, ov_si, ov_sl, ov_sa, ov_sm, ov_sv, ov_sq, oq_si, oq_sl, oq_sa, oq_sm, oq_sv, oq_sq, Nat.reduceEqDiff, ↓reduceIte]; done) | omega | (exact ixn (by omega) (by omega)) | (exact ixl (by decide) (by decide)) | (simp only [pt_len, pl, z0, z1, z2, z3, z4, z5, z6, z7, z8, z9, z10, z11, z12]; omega)) only [↓gb_m, ↓gc_m, ↓gl_s, ↓gg_m, gb_s, gc_s, gg_t, gqm_0, gqm_1, pt_pt, sa_sa, sm_sm, si_si, qk1, qg1_0, qg1_1, qg1_2, qg1_3, qg1_4, qs1_4, qg1_5, qs1_5, qg1_6, qs1_6, qg1_7, qs1_7, qg1_8, qs1_8, qg1_9, qs1_9, qa1_0, qe1_0, ql1_0, qa1_1, qe1_1, ql1_1, qa1_2, qe1_2, ql1_2, qa1_3, qe1_3, ql1_3, oi_si, oi_sl, oi_sa, oi_sm, oi_sv, oi_sq, ol_si, ol_sl, ol_sa, ol_sm, ol_sv, ol_sq, oa_si, oa_sl, oa_sa, oa_sm, oa_sv, oa_sq, om_si, om_sl, om_sa, om_sm, om_sv, om_sq, ov_si, ov_sl, ov_sa, ov_sm, ov_sv, ov_sq, oq_si, oq_sl, oq_sa, oq_sm, oq_sv, oq_sq, Nat.reduceEqDiff, ↓reduceIte, n_add, n_addl, n_ladd, n_add1, n_mul, n_lmul, n_mull, n_sub, n_subl, n_subm, n_lt, n_le, n_eq, n_ltl, n_llt, n_lel, n_lle, n_eql, n_leq, n_m1, n_m1l, n_lt0, n_ge0, i_okc, i_okl, if_true, if_false, not_true, not_false, Nat.not_lt_zero, Nat.zero_le, e0, z, q0, ih2]
    have lp0 := lp (gapS I H) 0 N (by omega) (by omega)
    have lp0 : gi (fun zk zs => f_X1_takeIn_3 N zk zs.1 zs.2.1 zs.2.2.1 zs.2.2.2.1 zs.2.2.2.2.1 zs.2.2.2.2.2) N (p, q, Int32.ofNat g, dia, 0, pt sX1 p D (pd dia G h)) = _ := lp0
    unfold f_X1_takeIn
    rw [lp0]
    unfold f_X1_takeIn_29
    have z : (Int32.ofNat (gapS I H) = Int32.ofNat (iR I)) = False := neqF (by omega) (by omega) (by omega)
    rw [e0, gb_s, if_neg (of_eq_false z)]
    exact a1
  · rw [oi_si, if_neg (by decide), oi_si, if_pos rfl, r2, n_add1, occ_come hH hf]
  · rw [oi_si, if_pos rfl, r3, shl1 g (by omega), msk_or _ (by omega) (by omega), hE_come]
end CTake

