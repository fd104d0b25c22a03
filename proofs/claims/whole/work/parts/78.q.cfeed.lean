/-! The component: feed -/
theorem shu : ∀ k, k < 57 → (((Int32.toInt64 (Int32.ofNat k)).toUInt64 &&& Int64.toUInt64 63).toBitVec % 64).toNat = k := by decide
theorem sha : ∀ k, k < 57 → ((Int32.toInt64 (Int32.ofNat k) &&& 63).toBitVec.smod 64).toNat = k := by decide
theorem b255 {i : Nat} (hi : i < 32) : (255 : Int32).toBitVec.getLsbD i = decide (i < 8) := by
  have : (255 : Int32) = Int32.ofNat 255 := rfl
  rw [this, bv_n, show (255 : Nat) = 2 ^ 8 - 1 from rfl, Nat.testBit_two_pow_sub_one]
  simp [hi]
theorem lsh_byte (v : Int64) {k : Nat} (hk : k < 57) : Int64.toInt32 ((Int64.toUInt64 v >>> ((Int32.toInt64 (Int32.ofNat k)).toUInt64 &&& Int64.toUInt64 63)).toInt64) &&& 255 = sgM v k := by
  unfold sgM
  apply bv_ext
  intro i hi
  rw [Int32.toBitVec_and, BitVec.getLsbD_and, Int32.toBitVec_and, BitVec.getLsbD_and, b255 hi]
  by_cases c : i < 8
  · rw [decide_eq_true c, Bool.and_true, Bool.and_true]
    have e1 : ∀ y : Int64, (Int64.toInt32 y).toBitVec.getLsbD i = y.toBitVec.getLsbD i := by
      intro y
      show (y.toBitVec.signExtend 32).getLsbD i = _
      rw [BitVec.getLsbD_signExtend]
      simp [hi, show i < 64 by omega]
    rw [e1, e1, Int64.toBitVec_shiftRight]
    unfold BitVec.sshiftRight'
    rw [sha k hk, BitVec.getLsbD_sshiftRight]
    show (Int64.toUInt64 v >>> ((Int32.toInt64 (Int32.ofNat k)).toUInt64 &&& Int64.toUInt64 63)).toBitVec.getLsbD i = _
    rw [UInt64.toBitVec_shiftRight, BitVec.ushiftRight_eq', shu k hk, BitVec.getLsbD_ushiftRight]
    have : k + i < 64 := by omega
    have h2 : ¬ 64 ≤ i := by omega
    simp [this, h2]
  · rw [decide_eq_false c, Bool.and_false, Bool.and_false]
theorem nar2 : ∀ c, c < 128 → gnar 2 ((Int32.toInt8 (Int32.ofNat c)).toInt32) = Int32.ofNat c := by decide +kernel
theorem sub8 (n : Nat) : Int32.ofNat (8 * (n + 1)) + (-8) = Int32.ofNat (8 * n) := by
  have h1 : (-8 : Int32).toInt = -8 := by decide
  have h2 : Int32.ofNat (8 * (n + 1)) = Int32.ofNat (8 * n) + Int32.ofNat 8 := by rw [n_add]; rfl
  rw [h2, Int32.add_assoc]
  have h3 : Int32.ofNat 8 + (-8) = 0 := by decide
  rw [h3, Int32.add_zero]
section CFeed
variable {N : Nat} {A : AA}
theorem c_isSign {c : Nat} (hc : c < 256) {h : PH} : f_X10_isSign N (Int32.ofNat c) h = some (eB (okC c), h) := by
  unfold f_X10_isSign f_X10_isSign_18 f_X10_isSign_22 f_X10_isSign_23 okC
  rw [gzb0, gzb1, gg_t, gg_t]
  by_cases c1 : c = 10
  · have e1 : Int32.ofNat c = 10 := by rw [c1]; rfl
    rw [if_pos e1, decide_eq_true c1]
    rfl
  · have e1 : ¬ Int32.ofNat c = 10 := of_eq_false (neqF (b := 10) c1 (by omega) (by omega))
    rw [if_neg e1, decide_eq_false c1, Bool.false_or]
    by_cases c2 : c < 32
    · have e2 : Int32.ofNat c < 32 := of_eq_true (nltT (b := 32) c2 (by omega) (by omega))
      rw [if_pos e2, decide_eq_false (show ¬ 32 ≤ c by omega)]
      rfl
    · have e2 : ¬ Int32.ofNat c < 32 := of_eq_false (nltF (b := 32) c2 (by omega) (by omega))
      rw [if_neg e2, decide_eq_true (show 32 ≤ c by omega), Bool.true_and]
      by_cases c3 : 126 < c
      · have e3 : (126 : Int32) < Int32.ofNat c := of_eq_true (nltT (a := 126) c3 (by omega) (by omega))
        rw [if_pos e3, decide_eq_false (show ¬ c ≤ 126 by omega)]
        rfl
      · have e3 : ¬ (126 : Int32) < Int32.ofNat c := of_eq_false (nltF (a := 126) c3 (by omega) (by omega))
        rw [if_neg e3, decide_eq_true (show c ≤ 126 by omega)]
        rfl
/-- the tape's own cells -/
def RepTa (T : List Nat) (D : OD) : Prop := oi D 1 = Int32.ofNat T.length ∧ ∀ (k c : Nat), T[k]? = some c → oa D 0 k = Int32.ofNat c
theorem c_append {h : PH} {p : Nat} (hF : p + 2 ≤ h.length) (hN : 2000 ≤ N) (v : Int64) {D : OD} {T : List Nat} (hT : TOk T) (hR : RepTa T D) : ∃ D', f_X10_append N p v (pt sX10 p D h) = some (pt sX10 p D' h) ∧ RepTa (layS T v) D' := by
  have key : ∀ n m D T, n ≤ 8 → n < m → TOk T → RepTa T D → ∃ D', gi (fun zk zs => f_X10_append_3 N zk zs.1 zs.2.1 zs.2.2.1 zs.2.2.2) m (p, v, Int32.ofNat (8 * n) + (-8), pt sX10 p D h) = some (pt sX10 p D' h) ∧ RepTa ((byS v n).foldl laC T) D' := by
    intro n
    induction n with
    | zero =>
      intro m D T _ hm hT hR
      obtain ⟨m, rfl⟩ : ∃ k, m = k + 1 := ⟨m - 1, by omega⟩
      rw [gi_1]
      generalize hz : gi _ m = zk
      dsimp only
      unfold f_X10_append_3
      rw [if_pos (by decide)]
      exact ⟨D, rfl, hR⟩
    | succ n ih =>
      intro m D T hn hm hT hR
      obtain ⟨m, rfl⟩ : ∃ k, m = k + 1 := ⟨m - 1, by omega⟩
      rw [gi_1]
      generalize hz : gi _ m = zk
      dsimp only
      have e0 := sub8 n
      rw [e0]
      have es := lsh_byte v (k := 8 * n) (by omega)
      obtain ⟨c, hc, ec⟩ := and255 (Int64.toInt32 (v >>> (Int32.toInt64 (Int32.ofNat (8 * n)) &&& 63)))
      have ec : sgM v (8 * n) = Int32.ofNat c := ec
      have ec2 : (sgM v (8 * n)).toNatClampNeg = c := by rw [ec, i_okc (by omega)]
      rw [ec] at es
      have hl := hT.1
      have sk : okC c = false ∨ 1000 ≤ T.length → laC T c = T := by
        intro z
        unfold laC
        rw [if_neg]
        simp only [Bool.and_eq_true, decide_eq_true_eq]
        rintro ⟨z1, z2⟩
        rcases z with z | z
        · rw [z1] at z; cases z
        · omega
      have nx : ∀ D1 T1, laC T c = T1 → RepTa T1 D1 → ∃ D', zk (p, v, Int32.ofNat (8 * n) + (-8), pt sX10 p D1 h) = some (pt sX10 p D' h) ∧ RepTa ((byS v (n + 1)).foldl laC T) D' := by
        intro D1 T1 k1 k3
        have ht1 : TOk T1 := by rw [← k1]; exact laC_ok hT c
        obtain ⟨D', e1, e3⟩ := ih m D1 T1 (by omega) (by omega) ht1 k3
        refine ⟨D', ?_, ?_⟩
        · rw [← hz]
          exact e1
        · show RepTa ((((sgM v (8 * n)).toNatClampNeg) :: byS v n).foldl laC T) D'
          rw [ec2, List.foldl_cons, k1]
          exact e3
      unfold f_X10_append_3 f_X10_append_57
      rw [if_neg (by rw [n_lt0 (by omega)]; exact id), gl_s, es, c_isSign hc, gc_s]
      cases hk : okC c with
      | false =>
        rw [if_pos (eBf _ rfl), gl_s]
        exact nx D T (sk (Or.inl hk)) hR
      | true =>
        rw [if_neg (eBt _ rfl)]
        have c127 : c < 128 := by rcases okC_iff.mp hk with z | z <;> omega
        by_cases ql : 1000 ≤ T.length
        · have q1 : ((1000 : Int32) ≤ Int32.ofNat T.length) = True := nleT (a := 1000) ql (by omega) (by omega)
          simp (disch := first | (with_reducible assumption) | (simp only [oi_si, oi_sl, oi_sa, oi_sm, oi_sv, oi_sq, ol_si, ol_sl, ol_sa, ol_sm, ol_sv, ol_sq, oa_si, oa_sl, oa_sa, oa_sm, oa_sv, oa_sq, om_si, om_sl, om_sa, om_sm, om_sv, om_sq, ov_si, ov_sl, ov_sa, ov_sm, ov_sv, ov_sq, oq_si, oq_sl, oq_sa, oq_sm, oq_sv, oq_sq, Nat.reduceEqDiff, ↓reduceIte]; done) | omega | (exact ixn (by omega) (by omega)) | (exact ixl (by decide) (by decide)) | (simp only [pt_len, pl, z0, z1, z2, z3, z4, z5, z6, z7, z8, z9, z10, z11, z12]; omega)) only [↓gb_m, ↓gc_m, ↓gl_s, ↓gg_m, gb_s, gc_s, gg_t, gqm_0, gqm_1, pt_pt, sa_sa, sm_sm, si_si, qk10, qg10_0, qg10_1, qs10_1, qg10_2, qs10_2, qg10_3, qs10_3, qg10_4, qs10_4, qg10_5, qs10_5, qg10_6, qs10_6, qa10_0, qe10_0, ql10_0, oi_si, oi_sl, oi_sa, oi_sm, oi_sv, oi_sq, ol_si, ol_sl, ol_sa, ol_sm, ol_sv, ol_sq, oa_si, oa_sl, oa_sa, oa_sm, oa_sv, oa_sq, om_si, om_sl, om_sa, om_sm, om_sv, om_sq, ov_si, ov_sl, ov_sa, ov_sm, ov_sv, ov_sq, oq_si, oq_sl, oq_sa, oq_sm, oq_sv, oq_sq, Nat.reduceEqDiff, ↓reduceIte, n_add, n_addl, n_ladd, n_add1, n_mul, n_lmul, n_mull, n_sub, n_subl, n_subm, n_lt, n_le, n_eq, n_ltl, n_llt, n_lel, n_lle, n_eql, n_leq, n_m1, n_m1l, n_lt0, n_ge0, i_okc, i_okl, if_true, if_false, not_true, not_false, Nat.not_lt_zero, Nat.zero_le, hR.1, q1]
          exact nx D T (sk (Or.inr ql)) hR
        · have q1 : ((1000 : Int32) ≤ Int32.ofNat T.length) = False := nleF (a := 1000) ql (by omega) (by omega)
          have nr := nar2 c c127
          simp (disch := first | (with_reducible assumption) | (simp only [oi_si, oi_sl, oi_sa, oi_sm, oi_sv, oi_sq, ol_si, ol_sl, ol_sa, ol_sm, ol_sv, ol_sq, oa_si, oa_sl, oa_sa, oa_sm, oa_sv, oa_sq, om_si, om_sl, om_sa, om_sm, om_sv, om_sq, ov_si, ov_sl, ov_sa, ov_sm, ov_sv, ov_sq, oq_si, oq_sl, oq_sa, oq_sm, oq_sv, oq_sq, Nat.reduceEqDiff, ↓reduceIte]; done) | omega | (exact ixn (by omega) (by omega)) | (exact ixl (by decide) (by decide)) | (simp only [pt_len, pl, z0, z1, z2, z3, z4, z5, z6, z7, z8, z9, z10, z11, z12]; omega)) only [↓gb_m, ↓gc_m, ↓gl_s, ↓gg_m, gb_s, gc_s, gg_t, gqm_0, gqm_1, pt_pt, sa_sa, sm_sm, si_si, qk10, qg10_0, qg10_1, qs10_1, qg10_2, qs10_2, qg10_3, qs10_3, qg10_4, qs10_4, qg10_5, qs10_5, qg10_6, qs10_6, qa10_0, qe10_0, ql10_0, oi_si, oi_sl, oi_sa, oi_sm, oi_sv, oi_sq, ol_si, ol_sl, ol_sa, ol_sm, ol_sv, ol_sq, oa_si, oa_sl, oa_sa, oa_sm, oa_sv, oa_sq, om_si, om_sl, om_sa, om_sm, om_sv, om_sq, ov_si, ov_sl, ov_sa, ov_sm, ov_sv, ov_sq, oq_si, oq_sl, oq_sa, oq_sm, oq_sv, oq_sq, Nat.reduceEqDiff, ↓reduceIte, n_add, n_addl, n_ladd, n_add1, n_mul, n_lmul, n_mull, n_sub, n_subl, n_subm, n_lt, n_le, n_eq, n_ltl, n_llt, n_lel, n_lle, n_eql, n_leq, n_m1, n_m1l, n_lt0, n_ge0, i_okc, i_okl, if_true, if_false, not_true, not_false, Nat.not_lt_zero, Nat.zero_le, hR.1, q1, nr]
          refine nx _ (T ++ [c]) ?_ ?_
          · unfold laC
            rw [if_pos]
            rw [hk]
            simp
            omega
          · refine ⟨?_, ?_⟩
            · simp only [oi_si, oi_sl, oi_sa, oi_sm, oi_sv, oi_sq, ol_si, ol_sl, ol_sa, ol_sm, ol_sv, ol_sq, oa_si, oa_sl, oa_sa, oa_sm, oa_sv, oa_sq, om_si, om_sl, om_sa, om_sm, om_sv, om_sq, ov_si, ov_sl, ov_sa, ov_sm, ov_sv, ov_sq, oq_si, oq_sl, oq_sa, oq_sm, oq_sv, oq_sq, Nat.reduceEqDiff, ↓reduceIte, List.length_append, List.length_singleton]
            · intro k x hx
              simp only [oi_si, oi_sl, oi_sa, oi_sm, oi_sv, oi_sq, ol_si, ol_sl, ol_sa, ol_sm, ol_sv, ol_sq, oa_si, oa_sl, oa_sa, oa_sm, oa_sv, oa_sq, om_si, om_sl, om_sa, om_sm, om_sv, om_sq, ov_si, ov_sl, ov_sa, ov_sm, ov_sv, ov_sq, oq_si, oq_sl, oq_sa, oq_sm, oq_sv, oq_sq, Nat.reduceEqDiff, ↓reduceIte]
              rw [upd_at]
              rcases Nat.lt_or_ge k T.length with z | z
              · rw [List.getElem?_append_left z] at hx
                rw [if_neg (by omega)]
                exact hR.2 k x hx
              · have hk := ln_of hx
                rw [List.length_append] at hk
                have hk : k < T.length + 1 := hk
                have hk : k = T.length := by omega
                subst hk
                rw [List.getElem?_append_right (Nat.le_refl _), Nat.sub_self] at hx
                cases hx
                rw [if_pos rfl]
  exact key 8 N D T (by omega) (by omega) hT hR
/-- only the tape has changed -/
theorem RC.tap {b : Bool} {mk : Nat → Option Nat} {h h' : PH} (r : RC A b mk h) {T : List Nat} (f : Fr (fun x => 1 ≤ x ∧ x < 3) h h') (g : c10 T h') : RC (aI A, T, aS A, aM A) b mk h' := by
  obtain ⟨a1, a2, a3, a4, a5, a6, a7, a8, a9, a10, a11, a12, a13⟩ := r
  have := cu_lt b
  have := cu_lt (!b)
  refine ⟨a1.fr f (by omega), g, a3.fr f (by omega), a4.fr f (fun x _ _ => by omega), a5.fr f (fun x _ _ => by omega), a6.fr f (fun x _ _ => by omega), a7.fr f (fun x _ _ => by omega), a8.fr f (fun x _ => by omega), a9.fr f (fun x _ _ => by omega), a10.fr f (fun x _ _ => by omega), a11.fr f (by omega), a12.fr f (by omega), ?_⟩
  have := f.len (n := 105) (by omega) (by omega)
  omega
theorem c_feed (hN : 2000 ≤ N) (hA' : AOk A) (a b c : Int64) : CAns A (feedS A a b c) (f_X11_feed N 0 a b c) (Int32.ofNat (aT (feedS A a b c)).length) := by
  intro h q
  obtain ⟨bb, mk, q⟩ := q
  have t0 : TOk (aT A) := ⟨hA'.2.2.1, hA'.2.2.2.1⟩
  obtain ⟨D, d1, d2, d3⟩ := q.2.1
  have hF : 1 + 2 ≤ h.length := d1.1
  obtain ⟨D1, e1, e2⟩ := c_append (N := N) (p := 1) (D := D) hF hN a t0 ⟨d2, d3⟩
  obtain ⟨D2, f1, f2⟩ := c_append (N := N) (p := 1) (D := D1) hF hN b (layL_ok _ t0) e2
  obtain ⟨D3, g1, g2⟩ := c_append (N := N) (p := 1) (D := D2) hF hN c (layL_ok _ (layL_ok _ t0)) f2
  rw [d1.2] at e1
  have q1 : ∀ D', RepTa (layS (aT A) a) D' → RC (aI A, layS (aT A) a, aS A, aM A) bb mk (pt sX10 1 D' h) := fun D' hD => q.tap (Fr.of (fun x x1 x2 => by simp only [z10] at x2; omega)) ⟨D', d1.p2, hD.1, hD.2⟩
  have q2 : RC (aI A, layS (layS (aT A) a) b, aS A, aM A) bb mk (pt sX10 1 D2 h) := q.tap (Fr.of (fun x x1 x2 => by simp only [z10] at x2; omega)) ⟨D2, d1.p2, f2.1, f2.2⟩
  have q3 : RC (aI A, layS (layS (layS (aT A) a) b) c, aS A, aM A) bb mk (pt sX10 1 D3 h) := q.tap (Fr.of (fun x x1 x2 => by simp only [z10] at x2; omega)) ⟨D3, d1.p2, g2.1, g2.2⟩
  refine ⟨pt sX10 1 D3 h, ?_, ⟨bb, mk, q3⟩, (Fr.of (P := fun x => 1 ≤ x ∧ x < 3) (fun x x1 x2 => by simp only [z10] at x2; omega)).nmd (fun x hx => by omega)⟩
  unfold f_X11_feed f_X10_length
  have k1 : At sX10 1 D1 (pt sX10 1 D1 h) := d1.p2
  have k2 : At sX10 1 D2 (pt sX10 1 D2 h) := d1.p2
  have k3 : At sX10 1 D3 (pt sX10 1 D3 h) := d1.p2
  rw [q.e11.2.1, gb_s, d1.is rfl, gg_t, e1, gb_s, (q1 D1 e2).e11.2.1, gb_s, k1.is rfl, gg_t, f1, gb_s, q2.e11.2.1, gb_s, k2.is rfl, gg_t, g1, gb_s, q3.e11.2.1, gb_s, k3.is rfl, gg_t, k3.gI (k := 1) rfl rfl, gb_s, gc_s, g2.1]
  rfl
end CFeed

