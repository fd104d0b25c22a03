/-! The model: the order in which guests should come -/
def comeL (I : IA) (row : List Nat) (H : HA) : HA := row.foldl (fun H g => comeS I g H) H
theorem comeL_a (I : IA) (row : List Nat) (g : Nat) (H : HA) : comeL I (row ++ [g]) H = comeS I g (comeL I row H) := by unfold comeL; rw [List.foldl_append]; rfl
theorem hCl_0 (H : HA) : hCl 0 H = H := by
  unfold hCl
  rw [if_neg (by omega)]
  rfl
theorem Fit.come {I : IA} (hI : IOk I) {ins : Nat → Bool} {n : Nat} {H : HA} (hF : Fit I ins n H) {g : Nat} (hg : g < iG I) (h0 : ins g = false) (hn : n < iR I) : Fit I (fu ins g true) (n + 1) (comeS I g H) ∧ (hL (comeS I g H)).length ≤ (hL H).length + 10 := by
  have := hF.step hI (e := (g, false, 0, none)) ⟨hg, Nat.zero_le _, fun k h => (by cases h), by rw [if_neg (by simp)]; exact ⟨h0, hn⟩⟩ (fun _ => none)
  have e : evS I (fun _ => none) H (g, false, 0, none) = comeS I g H := by
    unfold evS
    rw [if_neg (by simp)]
    show comeS I g (hCl 0 H) = _
    rw [hCl_0]
  rw [e] at this
  exact this
theorem come_gap {I : IA} {ins : Nat → Bool} {n : Nat} {H : HA} (hF : Fit I ins n H) (hn : n < iR I) : gapS I H < iR I := by
  rw [gap_full, hF.2.2]
  exact hn
theorem come_up {I : IA} {ins : Nat → Bool} {n : Nat} {H : HA} (hF : Fit I ins n H) {g : Nat} (hg : g < iG I) (h0 : ins g = false) (hn : n < iR I) (x : Nat) : hM H x ≤ hM (comeS I g H) x ∧ hsP H ≤ hsP (comeS I g H) := by
  refine come_ind (P := fun H' => hM H x ≤ hM H' x ∧ hsP H ≤ hsP H') (fun H' y fr to _ h => ?_) hF.1 hg (fun z => ?_) (come_gap hF hn) ⟨Nat.le_refl _, Nat.le_refl _⟩
  · rw [hM_go, hsP_go]
    constructor
    · split
      · rw [fu_at]
        split
        · rename_i q; subst q; have := h.1; omega
        · exact h.1
      · exact h.1
    · split
      · have := h.2; omega
      · exact h.2
  · have := (hF.2.1 g).mp z
    rw [h0] at this
    cases this
/-- all of a row can come -/
def CanCome (I : IA) (ins : Nat → Bool) (n : Nat) (row : List Nat) : Prop := (∀ g, g ∈ row → g < iG I ∧ ins g = false) ∧ row.Nodup ∧ n + row.length ≤ iR I
theorem comeL_fit {I : IA} (hI : IOk I) : ∀ (row : List Nat) (ins : Nat → Bool) (n : Nat) (H : HA), Fit I ins n H → CanCome I ins n row → Fit I (fun g => row.contains g || ins g) (n + row.length) (comeL I row H) ∧ (hL (comeL I row H)).length ≤ (hL H).length + 10 * row.length ∧ ∀ x, hM H x ≤ hM (comeL I row H) x ∧ hsP H ≤ hsP (comeL I row H) := by
  intro row
  induction row with
  | nil =>
    intro ins n H hF _
    refine ⟨?_, Nat.le_refl _, fun x => ⟨Nat.le_refl _, Nat.le_refl _⟩⟩
    have : (fun g => ([] : List Nat).contains g || ins g) = ins := by funext g; simp
    rw [this]
    exact hF
  | cons g row ih =>
    intro ins n H hF hc
    obtain ⟨c1, c2, c3⟩ := hc
    rw [List.length_cons] at c3
    have hg := c1 g (List.mem_cons_self ..)
    obtain ⟨a, b⟩ := hF.come hI hg.1 hg.2 (by omega)
    have u := fun x => come_up hF hg.1 hg.2 (by omega) x
    obtain ⟨d1, d2, d3⟩ := ih (fu ins g true) (n + 1) (comeS I g H) a ⟨fun x hx => ⟨(c1 x (List.mem_cons_of_mem _ hx)).1, by
      rw [fu_ne (by intro z; subst z; exact (List.nodup_cons.mp c2).1 hx)]
      exact (c1 x (List.mem_cons_of_mem _ hx)).2⟩, (List.nodup_cons.mp c2).2, by omega⟩
    have e : comeL I (g :: row) H = comeL I row (comeS I g H) := rfl
    rw [e, List.length_cons]
    refine ⟨?_, by omega, fun x => ⟨Nat.le_trans (u x).1 (d3 x).1, Nat.le_trans (u x).2 (d3 x).2⟩⟩
    have e2 : (fun x => (g :: row).contains x || ins x) = fun x => row.contains x || fu ins g true x := by
      funext x
      rw [fu_at]
      by_cases q : x = g
      · subst q; simp
      · rw [if_neg q, List.contains_cons, beq_eq_false_iff_ne.mpr q, Bool.false_or]
    rw [e2, show n + (row.length + 1) = n + 1 + row.length by omega]
    exact d1
def ordM (A : AA) (q : Nat) (row : List Nat) : Nat := hM (comeL (aI A) row (hA A)) q - hM (hA A) q
def ordP (A : AA) (row : List Nat) : Nat := hsP (comeL (aI A) row (hA A)) - hsP (hA A)
/-- all orders, one behind the other: the best so far -/
def tryG (ok : Nat → Bool) (G : Nat) (lt : List Nat → List Nat → Bool) : Nat → List Nat → Option (List Nat) → Option (List Nat)
  | 0 => fun row b => match b with
    | none => some row
    | some r => if lt row r then some row else some r
  | n + 1 => fun row b => (List.range G).foldl (fun b g => if ok g && !row.contains g then tryG ok G lt n (row ++ [g]) b else b) b
def ordLt (A : AA) (q : Nat) (r s : List Nat) : Bool := decide (ordM A q r < ordM A q s) || (decide (ordM A q r = ordM A q s) && decide (ordP A r < ordP A s))
/-- what is spilt is at most one a going -/
theorem sp_run {I : IA} (hI : IOk I) (rl : Ev → Option Nat) {es : List Ev} (hG : evG I (fun _ => false) 0 es) : hsP (replay I rl es) ≤ (hL (replay I rl es)).length :=
  run_ind hI (P := fun H => hsP H ≤ (hL H).length) (fun H g fr to hg h => by
    rw [hsP_go, hL_len]
    have := (hI.2.2.2.2.1 g hg.2.1).2.1
    split <;> omega) (fun H g h => h) (fun H m _ h => h) rl es _ _ _ Fit.z hG (Nat.le_refl _)
theorem come_sp {I : IA} (hI : IOk I) : ∀ (row : List Nat) (ins : Nat → Bool) (n : Nat) (H : HA), Fit I ins n H → CanCome I ins n row → (hsP H ≤ (hL H).length ∧ ∀ x, hM H x ≤ (hL H).length) → (hsP (comeL I row H) ≤ (hL (comeL I row H)).length ∧ ∀ x, hM (comeL I row H) x ≤ (hL (comeL I row H)).length) := by
  intro row
  induction row with
  | nil => intro ins n H _ _ h; exact h
  | cons g row ih =>
    intro ins n H hF hc h
    obtain ⟨c1, c2, c3⟩ := hc
    rw [List.length_cons] at c3
    have hg := c1 g (List.mem_cons_self ..)
    obtain ⟨a, b⟩ := hF.come hI hg.1 hg.2 (by omega)
    refine ih (fu ins g true) (n + 1) (comeS I g H) a ⟨fun x hx => ⟨(c1 x (List.mem_cons_of_mem _ hx)).1, by
      rw [fu_ne (by intro z; subst z; exact (List.nodup_cons.mp c2).1 hx)]
      exact (c1 x (List.mem_cons_of_mem _ hx)).2⟩, (List.nodup_cons.mp c2).2, by omega⟩ ?_
    refine come_ind (P := fun H' => hsP H' ≤ (hL H').length ∧ ∀ x, hM H' x ≤ (hL H').length) (fun H' y fr to hgo h => ?_) hF.1 hg.1 (fun z => ?_) (come_gap hF (by omega)) h
    · rw [hsP_go, hL_len]
      refine ⟨?_, fun x => ?_⟩
      · have := (hI.2.2.2.2.1 y hgo.2.1).2.1
        have := h.1
        split <;> omega
      · rw [hM_go]
        have := h.2 x
        split
        · rw [fu_at]
          split
          · rename_i q; subst q; omega
          · omega
        · omega
    · have := (hF.2.1 g).mp z
      rw [hg.2] at this
      cases this
section MOrder
variable {N : Nat} {h : PH} {A : AA}
theorem m_comesAll (hF : 80 + 25 ≤ h.length) (hN : 2000 ≤ N) {M : OD} (hA' : AOk A) (hM' : RepMod A M) {q : Nat} (hq : q < iG (aI A)) (h38 : oi M 38 = Int32.ofNat q) {row : List Nat} (hl : row.length = (sB (aS A)).length) (hc : CanCome (aI A) (insS (sE (aS A))) (nInS (sE (aS A))) row) (hR : RowAt M 32 row) :
    ∃ M', f_X12_comesAll N 80 (pt sX12 80 M h) = some (pt sX12 80 M' h) ∧ RepMod A M' ∧ Keep (18 :: 39 :: 40 :: 15 :: 16 :: kH) M M' ∧ oi M' 39 = Int32.ofNat (ordM A q row) ∧ oi M' 40 = Int32.ofNat (ordP A row) := by
  have b1 := hA'.1.1
  have b2 := hA'.1.2.1
  have bl := hA'.2.1.len.2.2.2
  have hM1 : RepMod A (si M 18 1) := hM'.nw (L := [18]) (k_si (by decide)) (by decide) (by rw [oi_si, if_pos rfl]; decide)
  obtain ⟨M1, e1, e2, e3, e4, e5⟩ := m_find (N := N) hF hN hA' hM1
  have f0 := hA_fit hA'
  obtain ⟨c1, c2, c3⟩ := hc
  have hlog := (hA_log hA').2.2
  have g38 : oi M1 38 = Int32.ofNat q := by
    rw [e5.i (by decide)]
    simp only [oi_si, oi_sl, oi_sa, oi_sm, oi_sv, oi_sq, ol_si, ol_sl, ol_sa, ol_sm, ol_sv, ol_sq, oa_si, oa_sl, oa_sa, oa_sm, oa_sv, oa_sq, om_si, om_sl, om_sa, om_sm, om_sv, om_sq, ov_si, ov_sl, ov_sa, ov_sm, ov_sv, ov_sq, oq_si, oq_sl, oq_sa, oq_sm, oq_sv, oq_sq, Nat.reduceEqDiff, ↓reduceIte]
    exact h38
  have R1 : RowAt M1 32 row := fun i x hx => by
    rw [e5.a (by decide)]
    simp only [oi_si, oi_sl, oi_sa, oi_sm, oi_sv, oi_sq, ol_si, ol_sl, ol_sa, ol_sm, ol_sv, ol_sq, oa_si, oa_sl, oa_sa, oa_sm, oa_sv, oa_sq, om_si, om_sl, om_sa, om_sm, om_sv, om_sq, ov_si, ov_sl, ov_sa, ov_sm, ov_sv, ov_sq, oq_si, oq_sl, oq_sa, oq_sm, oq_sv, oq_sq, Nat.reduceEqDiff, ↓reduceIte]
    exact hR i x hx
  have key : ∀ n k m M, k + n = row.length → n < m → RepIM (aI A) M → segB (oa M 17) (sB (aS A)) → RepHM (comeL (aI A) (row.take k) (hA A)) M → oi M 38 = Int32.ofNat q → RowAt M 32 row → ∃ M', gi (fun zk zs => f_X12_comesAll_26 N zk zs.1 zs.2.1 zs.2.2.1 zs.2.2.2.1 zs.2.2.2.2) m (80, Int32.ofNat (hM (hA A) q), Int32.ofNat (hsP (hA A)), Int32.ofNat k, pt sX12 80 M h) = some (pt sX12 80 M' h) ∧ Keep (18 :: 39 :: 40 :: 15 :: 16 :: kH) M M' ∧ oi M' 18 = 1 ∧ oi M' 39 = Int32.ofNat (ordM A q row) ∧ oi M' 40 = Int32.ofNat (ordP A row) := by
    intro n
    induction n with
    | zero =>
      intro k m M hk hm hI hB hH h38 hR
      obtain ⟨m, rfl⟩ : ∃ k, m = k + 1 := ⟨m - 1, by omega⟩
      rw [gi_1]
      generalize hz : gi _ m = zk
      dsimp only
      have hk : k = row.length := by omega
      subst hk
      rw [List.take_length] at hH
      have up := (comeL_fit hA'.1 row _ _ _ f0 ⟨c1, c2, c3⟩).2.2 q
      have q20 := hH.2.1 q (by omega)
      have q24 := hH.2.2.2.2.2.1
      have bk : f_X12_booked N 80 (pt sX12 80 M h) = some (Int32.ofNat row.length, pt sX12 80 M h) := by
        unfold f_X12_booked
        simp (disch := first | (with_reducible assumption) | (simp only [oi_si, oi_sl, oi_sa, oi_sm, oi_sv, oi_sq, ol_si, ol_sl, ol_sa, ol_sm, ol_sv, ol_sq, oa_si, oa_sl, oa_sa, oa_sm, oa_sv, oa_sq, om_si, om_sl, om_sa, om_sm, om_sv, om_sq, ov_si, ov_sl, ov_sa, ov_sm, ov_sv, ov_sq, oq_si, oq_sl, oq_sa, oq_sm, oq_sv, oq_sq, Nat.reduceEqDiff, ↓reduceIte]; done) | omega | (exact ixn (by omega) (by omega)) | (exact ixl (by decide) (by decide)) | (simp only [pt_len, pl, z0, z1, z2, z3, z4, z5, z6, z7, z8, z9, z10, z11, z12]; omega)) only [↓gb_m, ↓gc_m, ↓gl_s, ↓gg_m, gb_s, gc_s, gg_t, gqm_0, gqm_1, pt_pt, sa_sa, sm_sm, si_si, qk12, qg12_0, qs12_0, qg12_1, qg12_2, qs12_2, qg12_3, qs12_3, qg12_4, qg12_5, qg12_6, qg12_7, qs12_7, qg12_8, qs12_8, qg12_9, qg12_10, qg12_11, qg12_12, qg12_13, qs12_13, qg12_14, qg12_15, qg12_16, qg12_17, qg12_18, qs12_18, qg12_19, qg12_20, qg12_21, qg12_22, qg12_23, qs12_23, qg12_24, qs12_24, qg12_25, qs12_25, qg12_26, qs12_26, qg12_27, qs12_27, qg12_28, qs12_28, qg12_29, qg12_30, qs12_30, qg12_31, qg12_32, qg12_33, qg12_34, qg12_35, qg12_36, qs12_36, qg12_37, qs12_37, qg12_38, qs12_38, qg12_39, qs12_39, qg12_40, qs12_40, qg12_41, qg12_42, qs12_42, qg12_43, qs12_43, qg12_44, qs12_44, qg12_45, qs12_45, qg12_46, qs12_46, qg12_47, qa12_1, qe12_1, ql12_1, qa12_4, qe12_4, ql12_4, qa12_5, qe12_5, ql12_5, qa12_6, qe12_6, ql12_6, qa12_9, qe12_9, ql12_9, qa12_10, qe12_10, ql12_10, qa12_11, qe12_11, ql12_11, qa12_12, qe12_12, ql12_12, qa12_14, qe12_14, ql12_14, qa12_15, qe12_15, ql12_15, qa12_16, qe12_16, ql12_16, qa12_17, qe12_17, ql12_17, qa12_19, qe12_19, ql12_19, qa12_20, qe12_20, ql12_20, qa12_21, qe12_21, ql12_21, qa12_22, qe12_22, ql12_22, qa12_29, qe12_29, ql12_29, qa12_31, qe12_31, ql12_31, qa12_32, qe12_32, ql12_32, qa12_33, qe12_33, ql12_33, qa12_34, qe12_34, ql12_34, qa12_35, qe12_35, ql12_35, qa12_41, qe12_41, ql12_41, qa12_47, qe12_47, ql12_47, oi_si, oi_sl, oi_sa, oi_sm, oi_sv, oi_sq, ol_si, ol_sl, ol_sa, ol_sm, ol_sv, ol_sq, oa_si, oa_sl, oa_sa, oa_sm, oa_sv, oa_sq, om_si, om_sl, om_sa, om_sm, om_sv, om_sq, ov_si, ov_sl, ov_sa, ov_sm, ov_sv, ov_sq, oq_si, oq_sl, oq_sa, oq_sm, oq_sv, oq_sq, Nat.reduceEqDiff, ↓reduceIte, n_add, n_addl, n_ladd, n_add1, n_mul, n_lmul, n_mull, n_sub, n_subl, n_subm, n_lt, n_le, n_eq, n_ltl, n_llt, n_lel, n_lle, n_eql, n_leq, n_m1, n_m1l, n_lt0, n_ge0, i_okc, i_okl, if_true, if_false, not_true, not_false, Nat.not_lt_zero, Nat.zero_le]
        rw [hB.1, hl]
      unfold f_X12_comesAll_26
      simp (disch := first | (with_reducible assumption) | (simp only [oi_si, oi_sl, oi_sa, oi_sm, oi_sv, oi_sq, ol_si, ol_sl, ol_sa, ol_sm, ol_sv, ol_sq, oa_si, oa_sl, oa_sa, oa_sm, oa_sv, oa_sq, om_si, om_sl, om_sa, om_sm, om_sv, om_sq, ov_si, ov_sl, ov_sa, ov_sm, ov_sv, ov_sq, oq_si, oq_sl, oq_sa, oq_sm, oq_sv, oq_sq, Nat.reduceEqDiff, ↓reduceIte]; done) | omega | (exact ixn (by omega) (by omega)) | (exact ixl (by decide) (by decide)) | (simp only [pt_len, pl, z0, z1, z2, z3, z4, z5, z6, z7, z8, z9, z10, z11, z12]; omega)) only [↓gb_m, ↓gc_m, ↓gl_s, ↓gg_m, gb_s, gc_s, gg_t, gqm_0, gqm_1, pt_pt, sa_sa, sm_sm, si_si, qk12, qg12_0, qs12_0, qg12_1, qg12_2, qs12_2, qg12_3, qs12_3, qg12_4, qg12_5, qg12_6, qg12_7, qs12_7, qg12_8, qs12_8, qg12_9, qg12_10, qg12_11, qg12_12, qg12_13, qs12_13, qg12_14, qg12_15, qg12_16, qg12_17, qg12_18, qs12_18, qg12_19, qg12_20, qg12_21, qg12_22, qg12_23, qs12_23, qg12_24, qs12_24, qg12_25, qs12_25, qg12_26, qs12_26, qg12_27, qs12_27, qg12_28, qs12_28, qg12_29, qg12_30, qs12_30, qg12_31, qg12_32, qg12_33, qg12_34, qg12_35, qg12_36, qs12_36, qg12_37, qs12_37, qg12_38, qs12_38, qg12_39, qs12_39, qg12_40, qs12_40, qg12_41, qg12_42, qs12_42, qg12_43, qs12_43, qg12_44, qs12_44, qg12_45, qs12_45, qg12_46, qs12_46, qg12_47, qa12_1, qe12_1, ql12_1, qa12_4, qe12_4, ql12_4, qa12_5, qe12_5, ql12_5, qa12_6, qe12_6, ql12_6, qa12_9, qe12_9, ql12_9, qa12_10, qe12_10, ql12_10, qa12_11, qe12_11, ql12_11, qa12_12, qe12_12, ql12_12, qa12_14, qe12_14, ql12_14, qa12_15, qe12_15, ql12_15, qa12_16, qe12_16, ql12_16, qa12_17, qe12_17, ql12_17, qa12_19, qe12_19, ql12_19, qa12_20, qe12_20, ql12_20, qa12_21, qe12_21, ql12_21, qa12_22, qe12_22, ql12_22, qa12_29, qe12_29, ql12_29, qa12_31, qe12_31, ql12_31, qa12_32, qe12_32, ql12_32, qa12_33, qe12_33, ql12_33, qa12_34, qe12_34, ql12_34, qa12_35, qe12_35, ql12_35, qa12_41, qe12_41, ql12_41, qa12_47, qe12_47, ql12_47, oi_si, oi_sl, oi_sa, oi_sm, oi_sv, oi_sq, ol_si, ol_sl, ol_sa, ol_sm, ol_sv, ol_sq, oa_si, oa_sl, oa_sa, oa_sm, oa_sv, oa_sq, om_si, om_sl, om_sa, om_sm, om_sv, om_sq, ov_si, ov_sl, ov_sa, ov_sm, ov_sv, ov_sq, oq_si, oq_sl, oq_sa, oq_sm, oq_sv, oq_sq, Nat.reduceEqDiff, ↓reduceIte, n_add, n_addl, n_ladd, n_add1, n_mul, n_lmul, n_mull, n_sub, n_subl, n_subm, n_lt, n_le, n_eq, n_ltl, n_llt, n_lel, n_lle, n_eql, n_leq, n_m1, n_m1l, n_lt0, n_ge0, i_okc, i_okl, if_true, if_false, not_true, not_false, Nat.not_lt_zero, Nat.zero_le, bk, Nat.le_refl, h38, q20, q24, n_sub up.1, n_sub up.2]
      refine ⟨_, rfl, ?_, ?_, ?_, ?_⟩
      · (repeat (first | exact Keep.rf | assumption | refine k_si2 ?_ (by decide) | refine k_sa2 ?_ (by decide) | refine k_sm2 ?_ (by decide) | refine k_sl2 ?_ (by decide) | refine k_sv2 ?_ (by decide)))
      · simp only [oi_si, oi_sl, oi_sa, oi_sm, oi_sv, oi_sq, ol_si, ol_sl, ol_sa, ol_sm, ol_sv, ol_sq, oa_si, oa_sl, oa_sa, oa_sm, oa_sv, oa_sq, om_si, om_sl, om_sa, om_sm, om_sv, om_sq, ov_si, ov_sl, ov_sa, ov_sm, ov_sv, ov_sq, oq_si, oq_sl, oq_sa, oq_sm, oq_sv, oq_sq, Nat.reduceEqDiff, ↓reduceIte]
      · simp only [oi_si, oi_sl, oi_sa, oi_sm, oi_sv, oi_sq, ol_si, ol_sl, ol_sa, ol_sm, ol_sv, ol_sq, oa_si, oa_sl, oa_sa, oa_sm, oa_sv, oa_sq, om_si, om_sl, om_sa, om_sm, om_sv, om_sq, ov_si, ov_sl, ov_sa, ov_sm, ov_sv, ov_sq, oq_si, oq_sl, oq_sa, oq_sm, oq_sv, oq_sq, Nat.reduceEqDiff, ↓reduceIte]
        rfl
      · simp only [oi_si, oi_sl, oi_sa, oi_sm, oi_sv, oi_sq, ol_si, ol_sl, ol_sa, ol_sm, ol_sv, ol_sq, oa_si, oa_sl, oa_sa, oa_sm, oa_sv, oa_sq, om_si, om_sl, om_sa, om_sm, om_sv, om_sq, ov_si, ov_sl, ov_sa, ov_sm, ov_sv, ov_sq, oq_si, oq_sl, oq_sa, oq_sm, oq_sv, oq_sq, Nat.reduceEqDiff, ↓reduceIte]
        rfl
    | succ n ih =>
      intro k m M hk hm hI hB hH h38 hR
      obtain ⟨m, rfl⟩ : ∃ k, m = k + 1 := ⟨m - 1, by omega⟩
      rw [gi_1]
      generalize hz : gi _ m = zk
      dsimp only
      have b5 : (row.length ≤ k) = False := propext ⟨fun h => by omega, False.elim⟩
      have bk : f_X12_booked N 80 (pt sX12 80 M h) = some (Int32.ofNat row.length, pt sX12 80 M h) := by
        unfold f_X12_booked
        simp (disch := first | (with_reducible assumption) | (simp only [oi_si, oi_sl, oi_sa, oi_sm, oi_sv, oi_sq, ol_si, ol_sl, ol_sa, ol_sm, ol_sv, ol_sq, oa_si, oa_sl, oa_sa, oa_sm, oa_sv, oa_sq, om_si, om_sl, om_sa, om_sm, om_sv, om_sq, ov_si, ov_sl, ov_sa, ov_sm, ov_sv, ov_sq, oq_si, oq_sl, oq_sa, oq_sm, oq_sv, oq_sq, Nat.reduceEqDiff, ↓reduceIte]; done) | omega | (exact ixn (by omega) (by omega)) | (exact ixl (by decide) (by decide)) | (simp only [pt_len, pl, z0, z1, z2, z3, z4, z5, z6, z7, z8, z9, z10, z11, z12]; omega)) only [↓gb_m, ↓gc_m, ↓gl_s, ↓gg_m, gb_s, gc_s, gg_t, gqm_0, gqm_1, pt_pt, sa_sa, sm_sm, si_si, qk12, qg12_0, qs12_0, qg12_1, qg12_2, qs12_2, qg12_3, qs12_3, qg12_4, qg12_5, qg12_6, qg12_7, qs12_7, qg12_8, qs12_8, qg12_9, qg12_10, qg12_11, qg12_12, qg12_13, qs12_13, qg12_14, qg12_15, qg12_16, qg12_17, qg12_18, qs12_18, qg12_19, qg12_20, qg12_21, qg12_22, qg12_23, qs12_23, qg12_24, qs12_24, qg12_25, qs12_25, qg12_26, qs12_26, qg12_27, qs12_27, qg12_28, qs12_28, qg12_29, qg12_30, qs12_30, qg12_31, qg12_32, qg12_33, qg12_34, qg12_35, qg12_36, qs12_36, qg12_37, qs12_37, qg12_38, qs12_38, qg12_39, qs12_39, qg12_40, qs12_40, qg12_41, qg12_42, qs12_42, qg12_43, qs12_43, qg12_44, qs12_44, qg12_45, qs12_45, qg12_46, qs12_46, qg12_47, qa12_1, qe12_1, ql12_1, qa12_4, qe12_4, ql12_4, qa12_5, qe12_5, ql12_5, qa12_6, qe12_6, ql12_6, qa12_9, qe12_9, ql12_9, qa12_10, qe12_10, ql12_10, qa12_11, qe12_11, ql12_11, qa12_12, qe12_12, ql12_12, qa12_14, qe12_14, ql12_14, qa12_15, qe12_15, ql12_15, qa12_16, qe12_16, ql12_16, qa12_17, qe12_17, ql12_17, qa12_19, qe12_19, ql12_19, qa12_20, qe12_20, ql12_20, qa12_21, qe12_21, ql12_21, qa12_22, qe12_22, ql12_22, qa12_29, qe12_29, ql12_29, qa12_31, qe12_31, ql12_31, qa12_32, qe12_32, ql12_32, qa12_33, qe12_33, ql12_33, qa12_34, qe12_34, ql12_34, qa12_35, qe12_35, ql12_35, qa12_41, qe12_41, ql12_41, qa12_47, qe12_47, ql12_47, oi_si, oi_sl, oi_sa, oi_sm, oi_sv, oi_sq, ol_si, ol_sl, ol_sa, ol_sm, ol_sv, ol_sq, oa_si, oa_sl, oa_sa, oa_sm, oa_sv, oa_sq, om_si, om_sl, om_sa, om_sm, om_sv, om_sq, ov_si, ov_sl, ov_sa, ov_sm, ov_sv, ov_sq, oq_si, oq_sl, oq_sa, oq_sm, oq_sv, oq_sq, Nat.reduceEqDiff, ↓reduceIte, n_add, n_addl, n_ladd, n_add1, n_mul, n_lmul, n_mull, n_sub, n_subl, n_subm, n_lt, n_le, n_eq, n_ltl, n_llt, n_lel, n_lle, n_eql, n_leq, n_m1, n_m1l, n_lt0, n_ge0, i_okc, i_okl, if_true, if_false, not_true, not_false, Nat.not_lt_zero, Nat.zero_le]
        rw [hB.1, hl]
      obtain ⟨g, hg⟩ : ∃ g, row[k]? = some g := ⟨_, List.getElem?_eq_getElem (by omega)⟩
      have rg := hR k g hg
      have tk : row.take (k + 1) = row.take k ++ [g] := by
        rw [List.take_add_one, hg]
        rfl
      have nd := c2
      rw [← List.take_append_drop (k + 1) row, tk, List.nodup_append, List.nodup_append] at nd
      have hct : CanCome (aI A) (insS (sE (aS A))) (nInS (sE (aS A))) (row.take k) := ⟨fun x hx => c1 x (List.mem_of_mem_take hx), nd.1.1, by rw [List.length_take]; omega⟩
      obtain ⟨d1, d2, d3⟩ := comeL_fit hA'.1 (row.take k) _ _ _ f0 hct
      have tl : (row.take k).length = k := by rw [List.length_take]; omega
      rw [tl] at d1 d2
      have hgm := c1 g (List.mem_of_getElem? hg)
      have hgn : ((row.take k).contains g || insS (sE (aS A)) g) = false := by
        rw [hgm.2, Bool.or_false, ← Bool.not_eq_true]
        intro z
        exact nd.1.2.2 g (List.contains_iff_mem.mp z) g (List.mem_singleton.mpr rfl) rfl
      obtain ⟨M2, s1, s2, s3⟩ := m_comes (N := N) hF hI hH d1.1 hN hgm.1 (come_gap d1 (by omega)) (by omega)
      rw [← comeL_a, ← tk] at s3
      obtain ⟨M', t1, t2, t3⟩ := ih (k + 1) m M2 (by omega) (by omega) (hI.kp s2 (by decide) (by decide) (by decide)) (by rw [s2.a (by decide)]; exact hB) s3 (by rw [s2.i (by decide)]; exact h38) (fun i x hx => by rw [s2.a (by decide)]; exact hR i x hx)
      rw [hz] at t1
      refine ⟨M', ?_, (s2.up (by decide)).tr t2, t3⟩
      rw [← t1]
      unfold f_X12_comesAll_26
      simp (disch := first | (with_reducible assumption) | (simp only [oi_si, oi_sl, oi_sa, oi_sm, oi_sv, oi_sq, ol_si, ol_sl, ol_sa, ol_sm, ol_sv, ol_sq, oa_si, oa_sl, oa_sa, oa_sm, oa_sv, oa_sq, om_si, om_sl, om_sa, om_sm, om_sv, om_sq, ov_si, ov_sl, ov_sa, ov_sm, ov_sv, ov_sq, oq_si, oq_sl, oq_sa, oq_sm, oq_sv, oq_sq, Nat.reduceEqDiff, ↓reduceIte]; done) | omega | (exact ixn (by omega) (by omega)) | (exact ixl (by decide) (by decide)) | (simp only [pt_len, pl, z0, z1, z2, z3, z4, z5, z6, z7, z8, z9, z10, z11, z12]; omega)) only [↓gb_m, ↓gc_m, ↓gl_s, ↓gg_m, gb_s, gc_s, gg_t, gqm_0, gqm_1, pt_pt, sa_sa, sm_sm, si_si, qk12, qg12_0, qs12_0, qg12_1, qg12_2, qs12_2, qg12_3, qs12_3, qg12_4, qg12_5, qg12_6, qg12_7, qs12_7, qg12_8, qs12_8, qg12_9, qg12_10, qg12_11, qg12_12, qg12_13, qs12_13, qg12_14, qg12_15, qg12_16, qg12_17, qg12_18, qs12_18, qg12_19, qg12_20, qg12_21, qg12_22, qg12_23, qs12_23, qg12_24, qs12_24, qg12_25, qs12_25, qg12_26, qs12_26, qg12_27, qs12_27, qg12_28, qs12_28, qg12_29, qg12_30, qs12_30, qg12_31, qg12_32, qg12_33, qg12_34, qg12_35, qg12_36, qs12_36, qg12_37, qs12_37, qg12_38, qs12_38, qg12_39, qs12_39, qg12_40, qs12_40, qg12_41, qg12_42, qs12_42, qg12_43, qs12_43, qg12_44, qs12_44, qg12_45, qs12_45, qg12_46, qs12_46, qg12_47, qa12_1, qe12_1, ql12_1, qa12_4, qe12_4, ql12_4, qa12_5, qe12_5, ql12_5, qa12_6, qe12_6, ql12_6, qa12_9, qe12_9, ql12_9, qa12_10, qe12_10, ql12_10, qa12_11, qe12_11, ql12_11, qa12_12, qe12_12, ql12_12, qa12_14, qe12_14, ql12_14, qa12_15, qe12_15, ql12_15, qa12_16, qe12_16, ql12_16, qa12_17, qe12_17, ql12_17, qa12_19, qe12_19, ql12_19, qa12_20, qe12_20, ql12_20, qa12_21, qe12_21, ql12_21, qa12_22, qe12_22, ql12_22, qa12_29, qe12_29, ql12_29, qa12_31, qe12_31, ql12_31, qa12_32, qe12_32, ql12_32, qa12_33, qe12_33, ql12_33, qa12_34, qe12_34, ql12_34, qa12_35, qe12_35, ql12_35, qa12_41, qe12_41, ql12_41, qa12_47, qe12_47, ql12_47, oi_si, oi_sl, oi_sa, oi_sm, oi_sv, oi_sq, ol_si, ol_sl, ol_sa, ol_sm, ol_sv, ol_sq, oa_si, oa_sl, oa_sa, oa_sm, oa_sv, oa_sq, om_si, om_sl, om_sa, om_sm, om_sv, om_sq, ov_si, ov_sl, ov_sa, ov_sm, ov_sv, ov_sq, oq_si, oq_sl, oq_sa, oq_sm, oq_sv, oq_sq, Nat.reduceEqDiff, ↓reduceIte, n_add, n_addl, n_ladd, n_add1, n_mul, n_lmul, n_mull, n_sub, n_subl, n_subm, n_lt, n_le, n_eq, n_ltl, n_llt, n_lel, n_lle, n_eql, n_leq, n_m1, n_m1l, n_lt0, n_ge0, i_okc, i_okl, if_true, if_false, not_true, not_false, Nat.not_lt_zero, Nat.zero_le, bk, b5, rg, s1]
  have q20 := e3.2.1 q (by omega)
  have q24 := e3.2.2.2.2.2.1
  obtain ⟨M', t1, t2, t3, t4, t5⟩ := key row.length 0 N M1 (by omega) (by omega) e2.1 (seg_iff.mp e2.2.1).2.2.2.2.2 e3 g38 R1
  have kk : Keep (18 :: 39 :: 40 :: 15 :: 16 :: kH) M M' := (k_si (by decide)).tr ((e5.up (by decide)).tr t2)
  refine ⟨M', ?_, hM'.nw kk (by decide) (by rw [t3]; decide), kk, t4, t5⟩
  unfold f_X12_comesAll
  simp (disch := first | (with_reducible assumption) | (simp only [oi_si, oi_sl, oi_sa, oi_sm, oi_sv, oi_sq, ol_si, ol_sl, ol_sa, ol_sm, ol_sv, ol_sq, oa_si, oa_sl, oa_sa, oa_sm, oa_sv, oa_sq, om_si, om_sl, om_sa, om_sm, om_sv, om_sq, ov_si, ov_sl, ov_sa, ov_sm, ov_sv, ov_sq, oq_si, oq_sl, oq_sa, oq_sm, oq_sv, oq_sq, Nat.reduceEqDiff, ↓reduceIte]; done) | omega | (exact ixn (by omega) (by omega)) | (exact ixl (by decide) (by decide)) | (simp only [pt_len, pl, z0, z1, z2, z3, z4, z5, z6, z7, z8, z9, z10, z11, z12]; omega)) only [↓gb_m, ↓gc_m, ↓gl_s, ↓gg_m, gb_s, gc_s, gg_t, gqm_0, gqm_1, pt_pt, sa_sa, sm_sm, si_si, qk12, qg12_0, qs12_0, qg12_1, qg12_2, qs12_2, qg12_3, qs12_3, qg12_4, qg12_5, qg12_6, qg12_7, qs12_7, qg12_8, qs12_8, qg12_9, qg12_10, qg12_11, qg12_12, qg12_13, qs12_13, qg12_14, qg12_15, qg12_16, qg12_17, qg12_18, qs12_18, qg12_19, qg12_20, qg12_21, qg12_22, qg12_23, qs12_23, qg12_24, qs12_24, qg12_25, qs12_25, qg12_26, qs12_26, qg12_27, qs12_27, qg12_28, qs12_28, qg12_29, qg12_30, qs12_30, qg12_31, qg12_32, qg12_33, qg12_34, qg12_35, qg12_36, qs12_36, qg12_37, qs12_37, qg12_38, qs12_38, qg12_39, qs12_39, qg12_40, qs12_40, qg12_41, qg12_42, qs12_42, qg12_43, qs12_43, qg12_44, qs12_44, qg12_45, qs12_45, qg12_46, qs12_46, qg12_47, qa12_1, qe12_1, ql12_1, qa12_4, qe12_4, ql12_4, qa12_5, qe12_5, ql12_5, qa12_6, qe12_6, ql12_6, qa12_9, qe12_9, ql12_9, qa12_10, qe12_10, ql12_10, qa12_11, qe12_11, ql12_11, qa12_12, qe12_12, ql12_12, qa12_14, qe12_14, ql12_14, qa12_15, qe12_15, ql12_15, qa12_16, qe12_16, ql12_16, qa12_17, qe12_17, ql12_17, qa12_19, qe12_19, ql12_19, qa12_20, qe12_20, ql12_20, qa12_21, qe12_21, ql12_21, qa12_22, qe12_22, ql12_22, qa12_29, qe12_29, ql12_29, qa12_31, qe12_31, ql12_31, qa12_32, qe12_32, ql12_32, qa12_33, qe12_33, ql12_33, qa12_34, qe12_34, ql12_34, qa12_35, qe12_35, ql12_35, qa12_41, qe12_41, ql12_41, qa12_47, qe12_47, ql12_47, oi_si, oi_sl, oi_sa, oi_sm, oi_sv, oi_sq, ol_si, ol_sl, ol_sa, ol_sm, ol_sv, ol_sq, oa_si, oa_sl, oa_sa, oa_sm, oa_sv, oa_sq, om_si, om_sl, om_sa, om_sm, om_sv, om_sq, ov_si, ov_sl, ov_sa, ov_sm, ov_sv, ov_sq, oq_si, oq_sl, oq_sa, oq_sm, oq_sv, oq_sq, Nat.reduceEqDiff, ↓reduceIte, n_add, n_addl, n_ladd, n_add1, n_mul, n_lmul, n_mull, n_sub, n_subl, n_subm, n_lt, n_le, n_eq, n_ltl, n_llt, n_lel, n_lle, n_eql, n_leq, n_m1, n_m1l, n_lt0, n_ge0, i_okc, i_okl, if_true, if_false, not_true, not_false, Nat.not_lt_zero, Nat.zero_le, e1, g38, q20, q24]
  exact t1
/-- the best order so far, as the model has it -/
def OB (A : AA) (q : Nat) (b : Option (List Nat)) (M : OD) : Prop := match b with
  | none => oi M 42 = -1
  | some r => oi M 42 = Int32.ofNat (ordM A q r) ∧ oi M 43 = Int32.ofNat (ordP A r) ∧ RowAt M 41 r
abbrev kO : List Nat := 18 :: 39 :: 40 :: 15 :: 16 :: 32 :: 41 :: 42 :: 43 :: kH
theorem m_copyOrd (hF : 80 + 25 ≤ h.length) (zF : Nat → Int32 → Int32 → PH → Option PH) {row : List Nat} (hl : row.length ≤ 7) : ∀ n k m M, k + n = row.length → n < m → RowAt M 32 row → (∀ i, i < k → oa M 41 i = oa M 32 i) → ∃ M', gi (fun zk zs => f_X12_triesBooked_81 N zF zk zs.1 zs.2.1 zs.2.2.1 zs.2.2.2) m (80, Int32.ofNat row.length, Int32.ofNat k, pt sX12 80 M h) = some (pt sX12 80 M' h) ∧ Keep [41] M M' ∧ RowAt M' 41 row := by
  intro n
  induction n with
  | zero =>
    intro k m M hk hm hR hc
    obtain ⟨m, rfl⟩ : ∃ k, m = k + 1 := ⟨m - 1, by omega⟩
    rw [gi_1]
    generalize hz : gi _ m = zk
    dsimp only
    have hk : k = row.length := by omega
    subst hk
    unfold f_X12_triesBooked_81 f_X12_triesBooked_107
    simp (disch := first | (with_reducible assumption) | (simp only [oi_si, oi_sl, oi_sa, oi_sm, oi_sv, oi_sq, ol_si, ol_sl, ol_sa, ol_sm, ol_sv, ol_sq, oa_si, oa_sl, oa_sa, oa_sm, oa_sv, oa_sq, om_si, om_sl, om_sa, om_sm, om_sv, om_sq, ov_si, ov_sl, ov_sa, ov_sm, ov_sv, ov_sq, oq_si, oq_sl, oq_sa, oq_sm, oq_sv, oq_sq, Nat.reduceEqDiff, ↓reduceIte]; done) | omega | (exact ixn (by omega) (by omega)) | (exact ixl (by decide) (by decide)) | (simp only [pt_len, pl, z0, z1, z2, z3, z4, z5, z6, z7, z8, z9, z10, z11, z12]; omega)) only [↓gb_m, ↓gc_m, ↓gl_s, ↓gg_m, gb_s, gc_s, gg_t, gqm_0, gqm_1, pt_pt, sa_sa, sm_sm, si_si, qk12, qg12_0, qs12_0, qg12_1, qg12_2, qs12_2, qg12_3, qs12_3, qg12_4, qg12_5, qg12_6, qg12_7, qs12_7, qg12_8, qs12_8, qg12_9, qg12_10, qg12_11, qg12_12, qg12_13, qs12_13, qg12_14, qg12_15, qg12_16, qg12_17, qg12_18, qs12_18, qg12_19, qg12_20, qg12_21, qg12_22, qg12_23, qs12_23, qg12_24, qs12_24, qg12_25, qs12_25, qg12_26, qs12_26, qg12_27, qs12_27, qg12_28, qs12_28, qg12_29, qg12_30, qs12_30, qg12_31, qg12_32, qg12_33, qg12_34, qg12_35, qg12_36, qs12_36, qg12_37, qs12_37, qg12_38, qs12_38, qg12_39, qs12_39, qg12_40, qs12_40, qg12_41, qg12_42, qs12_42, qg12_43, qs12_43, qg12_44, qs12_44, qg12_45, qs12_45, qg12_46, qs12_46, qg12_47, qa12_1, qe12_1, ql12_1, qa12_4, qe12_4, ql12_4, qa12_5, qe12_5, ql12_5, qa12_6, qe12_6, ql12_6, qa12_9, qe12_9, ql12_9, qa12_10, qe12_10, ql12_10, qa12_11, qe12_11, ql12_11, qa12_12, qe12_12, ql12_12, qa12_14, qe12_14, ql12_14, qa12_15, qe12_15, ql12_15, qa12_16, qe12_16, ql12_16, qa12_17, qe12_17, ql12_17, qa12_19, qe12_19, ql12_19, qa12_20, qe12_20, ql12_20, qa12_21, qe12_21, ql12_21, qa12_22, qe12_22, ql12_22, qa12_29, qe12_29, ql12_29, qa12_31, qe12_31, ql12_31, qa12_32, qe12_32, ql12_32, qa12_33, qe12_33, ql12_33, qa12_34, qe12_34, ql12_34, qa12_35, qe12_35, ql12_35, qa12_41, qe12_41, ql12_41, qa12_47, qe12_47, ql12_47, oi_si, oi_sl, oi_sa, oi_sm, oi_sv, oi_sq, ol_si, ol_sl, ol_sa, ol_sm, ol_sv, ol_sq, oa_si, oa_sl, oa_sa, oa_sm, oa_sv, oa_sq, om_si, om_sl, om_sa, om_sm, om_sv, om_sq, ov_si, ov_sl, ov_sa, ov_sm, ov_sv, ov_sq, oq_si, oq_sl, oq_sa, oq_sm, oq_sv, oq_sq, Nat.reduceEqDiff, ↓reduceIte, n_add, n_addl, n_ladd, n_add1, n_mul, n_lmul, n_mull, n_sub, n_subl, n_subm, n_lt, n_le, n_eq, n_ltl, n_llt, n_lel, n_lle, n_eql, n_leq, n_m1, n_m1l, n_lt0, n_ge0, i_okc, i_okl, if_true, if_false, not_true, not_false, Nat.not_lt_zero, Nat.zero_le, Nat.le_refl]
    refine ⟨M, rfl, Keep.rf, ?_⟩
    intro i x hx
    rw [hc i (ln_of hx)]
    exact hR i x hx
  | succ n ih =>
    intro k m M hk hm hR hc
    obtain ⟨m, rfl⟩ : ∃ k, m = k + 1 := ⟨m - 1, by omega⟩
    rw [gi_1]
    generalize hz : gi _ m = zk
    dsimp only
    have b2 : (row.length ≤ k) = False := propext ⟨fun h => by omega, False.elim⟩
    obtain ⟨M', f1, f2, f3⟩ := ih (k + 1) m (sa M 41 (upd (oa M 41) k (oa M 32 k))) (by omega) (by omega) hR (by
      intro i hi
      simp only [oi_si, oi_sl, oi_sa, oi_sm, oi_sv, oi_sq, ol_si, ol_sl, ol_sa, ol_sm, ol_sv, ol_sq, oa_si, oa_sl, oa_sa, oa_sm, oa_sv, oa_sq, om_si, om_sl, om_sa, om_sm, om_sv, om_sq, ov_si, ov_sl, ov_sa, ov_sm, ov_sv, ov_sq, oq_si, oq_sl, oq_sa, oq_sm, oq_sv, oq_sq, Nat.reduceEqDiff, ↓reduceIte]
      rw [upd_at]
      split
      · rename_i q; rw [q]
      · exact hc i (by omega))
    rw [hz] at f1
    refine ⟨M', ?_, (k_sa (by decide)).tr f2, f3⟩
    rw [← f1]
    unfold f_X12_triesBooked_81
    simp (disch := first | (with_reducible assumption) | (simp only [oi_si, oi_sl, oi_sa, oi_sm, oi_sv, oi_sq, ol_si, ol_sl, ol_sa, ol_sm, ol_sv, ol_sq, oa_si, oa_sl, oa_sa, oa_sm, oa_sv, oa_sq, om_si, om_sl, om_sa, om_sm, om_sv, om_sq, ov_si, ov_sl, ov_sa, ov_sm, ov_sv, ov_sq, oq_si, oq_sl, oq_sa, oq_sm, oq_sv, oq_sq, Nat.reduceEqDiff, ↓reduceIte]; done) | omega | (exact ixn (by omega) (by omega)) | (exact ixl (by decide) (by decide)) | (simp only [pt_len, pl, z0, z1, z2, z3, z4, z5, z6, z7, z8, z9, z10, z11, z12]; omega)) only [↓gb_m, ↓gc_m, ↓gl_s, ↓gg_m, gb_s, gc_s, gg_t, gqm_0, gqm_1, pt_pt, sa_sa, sm_sm, si_si, qk12, qg12_0, qs12_0, qg12_1, qg12_2, qs12_2, qg12_3, qs12_3, qg12_4, qg12_5, qg12_6, qg12_7, qs12_7, qg12_8, qs12_8, qg12_9, qg12_10, qg12_11, qg12_12, qg12_13, qs12_13, qg12_14, qg12_15, qg12_16, qg12_17, qg12_18, qs12_18, qg12_19, qg12_20, qg12_21, qg12_22, qg12_23, qs12_23, qg12_24, qs12_24, qg12_25, qs12_25, qg12_26, qs12_26, qg12_27, qs12_27, qg12_28, qs12_28, qg12_29, qg12_30, qs12_30, qg12_31, qg12_32, qg12_33, qg12_34, qg12_35, qg12_36, qs12_36, qg12_37, qs12_37, qg12_38, qs12_38, qg12_39, qs12_39, qg12_40, qs12_40, qg12_41, qg12_42, qs12_42, qg12_43, qs12_43, qg12_44, qs12_44, qg12_45, qs12_45, qg12_46, qs12_46, qg12_47, qa12_1, qe12_1, ql12_1, qa12_4, qe12_4, ql12_4, qa12_5, qe12_5, ql12_5, qa12_6, qe12_6, ql12_6, qa12_9, qe12_9, ql12_9, qa12_10, qe12_10, ql12_10, qa12_11, qe12_11, ql12_11, qa12_12, qe12_12, ql12_12, qa12_14, qe12_14, ql12_14, qa12_15, qe12_15, ql12_15, qa12_16, qe12_16, ql12_16, qa12_17, qe12_17, ql12_17, qa12_19, qe12_19, ql12_19, qa12_20, qe12_20, ql12_20, qa12_21, qe12_21, ql12_21, qa12_22, qe12_22, ql12_22, qa12_29, qe12_29, ql12_29, qa12_31, qe12_31, ql12_31, qa12_32, qe12_32, ql12_32, qa12_33, qe12_33, ql12_33, qa12_34, qe12_34, ql12_34, qa12_35, qe12_35, ql12_35, qa12_41, qe12_41, ql12_41, qa12_47, qe12_47, ql12_47, oi_si, oi_sl, oi_sa, oi_sm, oi_sv, oi_sq, ol_si, ol_sl, ol_sa, ol_sm, ol_sv, ol_sq, oa_si, oa_sl, oa_sa, oa_sm, oa_sv, oa_sq, om_si, om_sl, om_sa, om_sm, om_sv, om_sq, ov_si, ov_sl, ov_sa, ov_sm, ov_sv, ov_sq, oq_si, oq_sl, oq_sa, oq_sm, oq_sv, oq_sq, Nat.reduceEqDiff, ↓reduceIte, n_add, n_addl, n_ladd, n_add1, n_mul, n_lmul, n_mull, n_sub, n_subl, n_subm, n_lt, n_le, n_eq, n_ltl, n_llt, n_lel, n_lle, n_eql, n_leq, n_m1, n_m1l, n_lt0, n_ge0, i_okc, i_okl, if_true, if_false, not_true, not_false, Nat.not_lt_zero, Nat.zero_le, b2, gnar_0]
/-- a part of an order of those who are booked -/
def BOk (A : AA) (row : List Nat) : Prop := row.Nodup ∧ ∀ g, g ∈ row → g ∈ sB (aS A)
theorem BOk.can (hA' : AOk A) (hcap : nInS (sE (aS A)) + (sB (aS A)).length ≤ iR (aI A)) {row : List Nat} (hb : BOk A row) (hl : row.length ≤ (sB (aS A)).length) : CanCome (aI A) (insS (sE (aS A))) (nInS (sE (aS A))) row := by
  refine ⟨fun g hg => ?_, hb.1, by omega⟩
  exact hA'.2.1.2.2.2.2.2.2.2.2.2.2 g (hb.2 g hg)
theorem ord_le (hA' : AOk A) (hcap : nInS (sE (aS A)) + (sB (aS A)).length ≤ iR (aI A)) {row : List Nat} (hb : BOk A row) (hl : row.length ≤ (sB (aS A)).length) (q : Nat) : ordM A q row ≤ 1070 ∧ ordP A row ≤ 1070 := by
  have f0 := hA_fit hA'
  have hc := hb.can hA' hcap hl
  have bl := hA'.2.1.len.2.2.2
  have hlog := (hA_log hA').2.2
  obtain ⟨d1, d2, d3⟩ := comeL_fit hA'.1 row _ _ _ f0 hc
  have m1 := mv_run hA'.1 (fun e => e.2.2.2) hA'.2.1.2.2.1
  have m2 := sp_run hA'.1 (fun e => e.2.2.2) hA'.2.1.2.2.1
  obtain ⟨s1, s2⟩ := come_sp hA'.1 row _ _ _ f0 hc ⟨m2, m1⟩
  have s2 := s2 q
  unfold ordM ordP
  omega
theorem m_triesO (hF : 80 + 25 ≤ h.length) (hN : 2000 ≤ N) (hA' : AOk A) {q : Nat} (hq : q < iG (aI A)) (hcap : nInS (sE (aS A)) + (sB (aS A)).length ≤ iR (aI A)) : ∀ (n d : Nat) (row : List Nat) (b : Option (List Nat)) (M : OD), row.length + n = (sB (aS A)).length → n < d → BOk A row → (∀ r, b = some r → BOk A r ∧ r.length ≤ (sB (aS A)).length) → RepMod A M → oi M 38 = Int32.ofNat q → RowAt M 32 row → OB A q b M →
    ∃ M', g_gO N d 80 (Int32.ofNat row.length) (Int32.ofNat (msk (fun k => row.contains k) 10)) (pt sX12 80 M h) = some (pt sX12 80 M' h) ∧ Keep kO M M' ∧ RepMod A M' ∧ RowAt M' 32 row ∧ OB A q (tryG (fun g => (sB (aS A)).contains g) (iG (aI A)) (ordLt A q) n row b) M' ∧ (∀ r, tryG (fun g => (sB (aS A)).contains g) (iG (aI A)) (ordLt A q) n row b = some r → BOk A r ∧ r.length ≤ (sB (aS A)).length) := by
  have bl := hA'.2.1.len.2.2.2
  have b0 := hA'.1.2.1
  intro n
  induction n with
  | zero =>
    intro d row b M hl hd hr hb hM' h38 hR hB
    obtain ⟨d, rfl⟩ : ∃ q, d = q + 1 := ⟨d - 1, by omega⟩
    show ∃ M', b_X12_triesBooked N (g_gO N d) 80 _ _ _ = _ ∧ _
    have hl : row.length = (sB (aS A)).length := by omega
    obtain ⟨M1, e1, e2, e3, e4, e5⟩ := m_comesAll (N := N) hF hN hA' hM' hq h38 hl (hr.can hA' hcap (by omega)) hR
    have bk := m_booked (N := N) hF (seg_iff.mpr (seg_iff.mp hM'.2.1))
    have l1 := ord_le hA' hcap hr (by omega) q
    have R1 : RowAt M1 32 row := fun i x hx => by rw [e3.a (by decide)]; exact hR i x hx
    -- the row is taken
    have tk : ∃ M', f_X12_triesBooked_52 N (g_gO N d) 80 (Int32.ofNat (sB (aS A)).length) (pt sX12 80 M1 h) = some (pt sX12 80 M' h) ∧ Keep kO M M' ∧ RepMod A M' ∧ RowAt M' 32 row ∧ OB A q (some row) M' := by
      obtain ⟨M', f1, f2, f3⟩ := m_copyOrd (N := N) hF (g_gO N d) (row := row) (by omega) row.length 0 N (si (si M1 42 (Int32.ofNat (ordM A q row))) 43 (Int32.ofNat (ordP A row))) (by omega) (by omega) R1 (fun i hi => by omega)
      have f1 : gi (fun zk zs => f_X12_triesBooked_81 N (g_gO N d) zk zs.1 zs.2.1 zs.2.2.1 zs.2.2.2) N (80, Int32.ofNat (sB (aS A)).length, 0, pt sX12 80 (si (si M1 42 (Int32.ofNat (ordM A q row))) 43 (Int32.ofNat (ordP A row))) h) = some (pt sX12 80 M' h) := by rw [← hl]; exact f1
      have one0 : ((1 : Int32) = 0) = False := propext ⟨fun h => absurd h (by decide), False.elim⟩
      have kk : Keep [41, 42, 43] M1 M' := ((k_si (by decide)).tr (k_si (by decide))).tr (f2.up (by decide))
      refine ⟨M', ?_, (e3.up (by decide)).tr (kk.up (by decide)), e2.kp kk (by decide), ?_, ?_⟩
      · unfold f_X12_triesBooked_52 f_X12_triesBooked_57
        simp (disch := first | (with_reducible assumption) | (simp only [oi_si, oi_sl, oi_sa, oi_sm, oi_sv, oi_sq, ol_si, ol_sl, ol_sa, ol_sm, ol_sv, ol_sq, oa_si, oa_sl, oa_sa, oa_sm, oa_sv, oa_sq, om_si, om_sl, om_sa, om_sm, om_sv, om_sq, ov_si, ov_sl, ov_sa, ov_sm, ov_sv, ov_sq, oq_si, oq_sl, oq_sa, oq_sm, oq_sv, oq_sq, Nat.reduceEqDiff, ↓reduceIte]; done) | omega | (exact ixn (by omega) (by omega)) | (exact ixl (by decide) (by decide)) | (simp only [pt_len, pl, z0, z1, z2, z3, z4, z5, z6, z7, z8, z9, z10, z11, z12]; omega)) only [↓gb_m, ↓gc_m, ↓gl_s, ↓gg_m, gb_s, gc_s, gg_t, gqm_0, gqm_1, pt_pt, sa_sa, sm_sm, si_si, qk12, qg12_0, qs12_0, qg12_1, qg12_2, qs12_2, qg12_3, qs12_3, qg12_4, qg12_5, qg12_6, qg12_7, qs12_7, qg12_8, qs12_8, qg12_9, qg12_10, qg12_11, qg12_12, qg12_13, qs12_13, qg12_14, qg12_15, qg12_16, qg12_17, qg12_18, qs12_18, qg12_19, qg12_20, qg12_21, qg12_22, qg12_23, qs12_23, qg12_24, qs12_24, qg12_25, qs12_25, qg12_26, qs12_26, qg12_27, qs12_27, qg12_28, qs12_28, qg12_29, qg12_30, qs12_30, qg12_31, qg12_32, qg12_33, qg12_34, qg12_35, qg12_36, qs12_36, qg12_37, qs12_37, qg12_38, qs12_38, qg12_39, qs12_39, qg12_40, qs12_40, qg12_41, qg12_42, qs12_42, qg12_43, qs12_43, qg12_44, qs12_44, qg12_45, qs12_45, qg12_46, qs12_46, qg12_47, qa12_1, qe12_1, ql12_1, qa12_4, qe12_4, ql12_4, qa12_5, qe12_5, ql12_5, qa12_6, qe12_6, ql12_6, qa12_9, qe12_9, ql12_9, qa12_10, qe12_10, ql12_10, qa12_11, qe12_11, ql12_11, qa12_12, qe12_12, ql12_12, qa12_14, qe12_14, ql12_14, qa12_15, qe12_15, ql12_15, qa12_16, qe12_16, ql12_16, qa12_17, qe12_17, ql12_17, qa12_19, qe12_19, ql12_19, qa12_20, qe12_20, ql12_20, qa12_21, qe12_21, ql12_21, qa12_22, qe12_22, ql12_22, qa12_29, qe12_29, ql12_29, qa12_31, qe12_31, ql12_31, qa12_32, qe12_32, ql12_32, qa12_33, qe12_33, ql12_33, qa12_34, qe12_34, ql12_34, qa12_35, qe12_35, ql12_35, qa12_41, qe12_41, ql12_41, qa12_47, qe12_47, ql12_47, oi_si, oi_sl, oi_sa, oi_sm, oi_sv, oi_sq, ol_si, ol_sl, ol_sa, ol_sm, ol_sv, ol_sq, oa_si, oa_sl, oa_sa, oa_sm, oa_sv, oa_sq, om_si, om_sl, om_sa, om_sm, om_sv, om_sq, ov_si, ov_sl, ov_sa, ov_sm, ov_sv, ov_sq, oq_si, oq_sl, oq_sa, oq_sm, oq_sv, oq_sq, Nat.reduceEqDiff, ↓reduceIte, n_add, n_addl, n_ladd, n_add1, n_mul, n_lmul, n_mull, n_sub, n_subl, n_subm, n_lt, n_le, n_eq, n_ltl, n_llt, n_lel, n_lle, n_eql, n_leq, n_m1, n_m1l, n_lt0, n_ge0, i_okc, i_okl, if_true, if_false, not_true, not_false, Nat.not_lt_zero, Nat.zero_le, one0, e4, e5, f1]
      · intro i x hx
        rw [f2.a (by decide)]
        exact R1 i x hx
      · refine ⟨?_, ?_, f3⟩
        · rw [f2.i (by decide)]
          simp only [oi_si, oi_sl, oi_sa, oi_sm, oi_sv, oi_sq, ol_si, ol_sl, ol_sa, ol_sm, ol_sv, ol_sq, oa_si, oa_sl, oa_sa, oa_sm, oa_sv, oa_sq, om_si, om_sl, om_sa, om_sm, om_sv, om_sq, ov_si, ov_sl, ov_sa, ov_sm, ov_sv, ov_sq, oq_si, oq_sl, oq_sa, oq_sm, oq_sv, oq_sq, Nat.reduceEqDiff, ↓reduceIte]
        · rw [f2.i (by decide)]
          simp only [oi_si, oi_sl, oi_sa, oi_sm, oi_sv, oi_sq, ol_si, ol_sl, ol_sa, ol_sm, ol_sv, ol_sq, oa_si, oa_sl, oa_sa, oa_sm, oa_sv, oa_sq, om_si, om_sl, om_sa, om_sm, om_sv, om_sq, ov_si, ov_sl, ov_sa, ov_sm, ov_sv, ov_sq, oq_si, oq_sl, oq_sa, oq_sm, oq_sv, oq_sq, Nat.reduceEqDiff, ↓reduceIte]
    -- it isn't
    have nt : ∃ M', f_X12_triesBooked_56 N (g_gO N d) 80 (Int32.ofNat (sB (aS A)).length) (pt sX12 80 M1 h) = some (pt sX12 80 M' h) ∧ Keep kO M M' ∧ RepMod A M' ∧ RowAt M' 32 row ∧ OB A q b M' := by
      refine ⟨M1, rfl, e3.up (by decide), e2, R1, ?_⟩
      cases b with
      | none =>
        show oi M1 42 = -1
        rw [e3.i (by decide)]
        exact hB
      | some r =>
        obtain ⟨x1, x2, x3⟩ := hB
        refine ⟨?_, ?_, fun i x hx => ?_⟩
        · rw [e3.i (by decide)]; exact x1
        · rw [e3.i (by decide)]; exact x2
        · rw [e3.a (by decide)]; exact x3 i x hx
    unfold b_X12_triesBooked
    rw [hl]
    cases b with
    | none =>
      have h42 : oi M1 42 = -1 := by rw [e3.i (by decide)]; exact hB
      have m1 : ((-1 : Int32) < 0) = True := propext ⟨fun _ => trivial, fun _ => by decide⟩
      simp (disch := first | (with_reducible assumption) | (simp only [oi_si, oi_sl, oi_sa, oi_sm, oi_sv, oi_sq, ol_si, ol_sl, ol_sa, ol_sm, ol_sv, ol_sq, oa_si, oa_sl, oa_sa, oa_sm, oa_sv, oa_sq, om_si, om_sl, om_sa, om_sm, om_sv, om_sq, ov_si, ov_sl, ov_sa, ov_sm, ov_sv, ov_sq, oq_si, oq_sl, oq_sa, oq_sm, oq_sv, oq_sq, Nat.reduceEqDiff, ↓reduceIte]; done) | omega | (exact ixn (by omega) (by omega)) | (exact ixl (by decide) (by decide)) | (simp only [pt_len, pl, z0, z1, z2, z3, z4, z5, z6, z7, z8, z9, z10, z11, z12]; omega)) only [↓gb_m, ↓gc_m, ↓gl_s, ↓gg_m, gb_s, gc_s, gg_t, gqm_0, gqm_1, pt_pt, sa_sa, sm_sm, si_si, qk12, qg12_0, qs12_0, qg12_1, qg12_2, qs12_2, qg12_3, qs12_3, qg12_4, qg12_5, qg12_6, qg12_7, qs12_7, qg12_8, qs12_8, qg12_9, qg12_10, qg12_11, qg12_12, qg12_13, qs12_13, qg12_14, qg12_15, qg12_16, qg12_17, qg12_18, qs12_18, qg12_19, qg12_20, qg12_21, qg12_22, qg12_23, qs12_23, qg12_24, qs12_24, qg12_25, qs12_25, qg12_26, qs12_26, qg12_27, qs12_27, qg12_28, qs12_28, qg12_29, qg12_30, qs12_30, qg12_31, qg12_32, qg12_33, qg12_34, qg12_35, qg12_36, qs12_36, qg12_37, qs12_37, qg12_38, qs12_38, qg12_39, qs12_39, qg12_40, qs12_40, qg12_41, qg12_42, qs12_42, qg12_43, qs12_43, qg12_44, qs12_44, qg12_45, qs12_45, qg12_46, qs12_46, qg12_47, qa12_1, qe12_1, ql12_1, qa12_4, qe12_4, ql12_4, qa12_5, qe12_5, ql12_5, qa12_6, qe12_6, ql12_6, qa12_9, qe12_9, ql12_9, qa12_10, qe12_10, ql12_10, qa12_11, qe12_11, ql12_11, qa12_12, qe12_12, ql12_12, qa12_14, qe12_14, ql12_14, qa12_15, qe12_15, ql12_15, qa12_16, qe12_16, ql12_16, qa12_17, qe12_17, ql12_17, qa12_19, qe12_19, ql12_19, qa12_20, qe12_20, ql12_20, qa12_21, qe12_21, ql12_21, qa12_22, qe12_22, ql12_22, qa12_29, qe12_29, ql12_29, qa12_31, qe12_31, ql12_31, qa12_32, qe12_32, ql12_32, qa12_33, qe12_33, ql12_33, qa12_34, qe12_34, ql12_34, qa12_35, qe12_35, ql12_35, qa12_41, qe12_41, ql12_41, qa12_47, qe12_47, ql12_47, oi_si, oi_sl, oi_sa, oi_sm, oi_sv, oi_sq, ol_si, ol_sl, ol_sa, ol_sm, ol_sv, ol_sq, oa_si, oa_sl, oa_sa, oa_sm, oa_sv, oa_sq, om_si, om_sl, om_sa, om_sm, om_sv, om_sq, ov_si, ov_sl, ov_sa, ov_sm, ov_sv, ov_sq, oq_si, oq_sl, oq_sa, oq_sm, oq_sv, oq_sq, Nat.reduceEqDiff, ↓reduceIte, n_add, n_addl, n_ladd, n_add1, n_mul, n_lmul, n_mull, n_sub, n_subl, n_subm, n_lt, n_le, n_eq, n_ltl, n_llt, n_lel, n_lle, n_eql, n_leq, n_m1, n_m1l, n_lt0, n_ge0, i_okc, i_okl, if_true, if_false, not_true, not_false, Nat.not_lt_zero, Nat.zero_le, bk, e1, h42, m1]
      obtain ⟨M', t1, t2, t3, t4, t5⟩ := tk
      refine ⟨M', t1, t2, t3, t4, t5, ?_⟩
      intro r hr'
      cases hr'
      exact ⟨hr, by omega⟩
    | some r =>
      have l2 := ord_le hA' hcap (hb r rfl).1 (hb r rfl).2 q
      have h42 : oi M1 42 = Int32.ofNat (ordM A q r) := by rw [e3.i (by decide)]; exact hB.1
      have h43 : oi M1 43 = Int32.ofNat (ordP A r) := by rw [e3.i (by decide)]; exact hB.2.1
      simp (disch := first | (with_reducible assumption) | (simp only [oi_si, oi_sl, oi_sa, oi_sm, oi_sv, oi_sq, ol_si, ol_sl, ol_sa, ol_sm, ol_sv, ol_sq, oa_si, oa_sl, oa_sa, oa_sm, oa_sv, oa_sq, om_si, om_sl, om_sa, om_sm, om_sv, om_sq, ov_si, ov_sl, ov_sa, ov_sm, ov_sv, ov_sq, oq_si, oq_sl, oq_sa, oq_sm, oq_sv, oq_sq, Nat.reduceEqDiff, ↓reduceIte]; done) | omega | (exact ixn (by omega) (by omega)) | (exact ixl (by decide) (by decide)) | (simp only [pt_len, pl, z0, z1, z2, z3, z4, z5, z6, z7, z8, z9, z10, z11, z12]; omega)) only [↓gb_m, ↓gc_m, ↓gl_s, ↓gg_m, gb_s, gc_s, gg_t, gqm_0, gqm_1, pt_pt, sa_sa, sm_sm, si_si, qk12, qg12_0, qs12_0, qg12_1, qg12_2, qs12_2, qg12_3, qs12_3, qg12_4, qg12_5, qg12_6, qg12_7, qs12_7, qg12_8, qs12_8, qg12_9, qg12_10, qg12_11, qg12_12, qg12_13, qs12_13, qg12_14, qg12_15, qg12_16, qg12_17, qg12_18, qs12_18, qg12_19, qg12_20, qg12_21, qg12_22, qg12_23, qs12_23, qg12_24, qs12_24, qg12_25, qs12_25, qg12_26, qs12_26, qg12_27, qs12_27, qg12_28, qs12_28, qg12_29, qg12_30, qs12_30, qg12_31, qg12_32, qg12_33, qg12_34, qg12_35, qg12_36, qs12_36, qg12_37, qs12_37, qg12_38, qs12_38, qg12_39, qs12_39, qg12_40, qs12_40, qg12_41, qg12_42, qs12_42, qg12_43, qs12_43, qg12_44, qs12_44, qg12_45, qs12_45, qg12_46, qs12_46, qg12_47, qa12_1, qe12_1, ql12_1, qa12_4, qe12_4, ql12_4, qa12_5, qe12_5, ql12_5, qa12_6, qe12_6, ql12_6, qa12_9, qe12_9, ql12_9, qa12_10, qe12_10, ql12_10, qa12_11, qe12_11, ql12_11, qa12_12, qe12_12, ql12_12, qa12_14, qe12_14, ql12_14, qa12_15, qe12_15, ql12_15, qa12_16, qe12_16, ql12_16, qa12_17, qe12_17, ql12_17, qa12_19, qe12_19, ql12_19, qa12_20, qe12_20, ql12_20, qa12_21, qe12_21, ql12_21, qa12_22, qe12_22, ql12_22, qa12_29, qe12_29, ql12_29, qa12_31, qe12_31, ql12_31, qa12_32, qe12_32, ql12_32, qa12_33, qe12_33, ql12_33, qa12_34, qe12_34, ql12_34, qa12_35, qe12_35, ql12_35, qa12_41, qe12_41, ql12_41, qa12_47, qe12_47, ql12_47, oi_si, oi_sl, oi_sa, oi_sm, oi_sv, oi_sq, ol_si, ol_sl, ol_sa, ol_sm, ol_sv, ol_sq, oa_si, oa_sl, oa_sa, oa_sm, oa_sv, oa_sq, om_si, om_sl, om_sa, om_sm, om_sv, om_sq, ov_si, ov_sl, ov_sa, ov_sm, ov_sv, ov_sq, oq_si, oq_sl, oq_sa, oq_sm, oq_sv, oq_sq, Nat.reduceEqDiff, ↓reduceIte, n_add, n_addl, n_ladd, n_add1, n_mul, n_lmul, n_mull, n_sub, n_subl, n_subm, n_lt, n_le, n_eq, n_ltl, n_llt, n_lel, n_lle, n_eql, n_leq, n_m1, n_m1l, n_lt0, n_ge0, i_okc, i_okl, if_true, if_false, not_true, not_false, Nat.not_lt_zero, Nat.zero_le, bk, e1, h42, h43, e4, e5]
      unfold tryG ordLt
      have tkf : ∀ P : Prop, P → ∃ M', f_X12_triesBooked_52 N (g_gO N d) 80 (Int32.ofNat (sB (aS A)).length) (pt sX12 80 M1 h) = some (pt sX12 80 M' h) ∧ Keep kO M M' ∧ RepMod A M' ∧ RowAt M' 32 row ∧ OB A q (some row) M' ∧ ∀ r, some row = some r → BOk A r ∧ r.length ≤ (sB (aS A)).length := by
        intro _ _
        obtain ⟨M', t1, t2, t3, t4, t5⟩ := tk
        refine ⟨M', t1, t2, t3, t4, t5, ?_⟩
        intro r hr'
        cases hr'
        exact ⟨hr, by omega⟩
      have ntf : ∃ M', f_X12_triesBooked_56 N (g_gO N d) 80 (Int32.ofNat (sB (aS A)).length) (pt sX12 80 M1 h) = some (pt sX12 80 M' h) ∧ Keep kO M M' ∧ RepMod A M' ∧ RowAt M' 32 row ∧ OB A q (some r) M' ∧ ∀ r', some r = some r' → BOk A r' ∧ r'.length ≤ (sB (aS A)).length := by
        obtain ⟨M', t1, t2, t3, t4, t5⟩ := nt
        exact ⟨M', t1, t2, t3, t4, t5, hb⟩
      by_cases c1 : ordM A q row < ordM A q r
      · rw [if_pos c1]
        simp only [c1, decide_true, Bool.true_or, if_true]
        exact tkf True trivial
      · rw [if_neg c1]
        by_cases c2 : ordM A q row = ordM A q r
        · rw [if_pos c2]
          by_cases c3 : ordP A r ≤ ordP A row
          · rw [if_pos c3]
            have c4 : ¬ ordP A row < ordP A r := by omega
            simp only [c1, c4, decide_false, Bool.and_false, Bool.or_false, Bool.false_eq_true, if_false]
            exact ntf
          · rw [if_neg c3]
            have c4 : ordP A row < ordP A r := by omega
            simp only [c1, c2, c4, decide_true, decide_false, Bool.and_true, Bool.or_true, if_true]
            exact tkf True trivial
        · rw [if_neg c2]
          simp only [c1, c2, decide_false, Bool.false_and, Bool.or_false, Bool.false_eq_true, if_false]
          exact ntf
  | succ n ih =>
    intro d row b M hl hd hr hb hM' h38 hR hB
    obtain ⟨d, rfl⟩ : ∃ q, d = q + 1 := ⟨d - 1, by omega⟩
    show ∃ M', b_X12_triesBooked N (g_gO N d) 80 _ _ _ = _ ∧ _
    have hx : ∀ x, x ∈ sB (aS A) → x < 2147483648 := fun x hx => by
      have := (hA'.2.1.2.2.2.2.2.2.2.2.2.2 x hx).1
      omega
    have key : ∀ c j m M b, j + c = iG (aI A) → c < m → (∀ r, b = some r → BOk A r ∧ r.length ≤ (sB (aS A)).length) → RepMod A M → oi M 38 = Int32.ofNat q → RowAt M 32 row → OB A q b M → ∃ M', gi (fun zk zs => f_X12_triesBooked_110 N (g_gO N d) zk zs.1 zs.2.1 zs.2.2.1 zs.2.2.2.1 zs.2.2.2.2) m (80, Int32.ofNat row.length, Int32.ofNat (msk (fun k => row.contains k) 10), Int32.ofNat j, pt sX12 80 M h) = some (pt sX12 80 M' h) ∧ Keep kO M M' ∧ RepMod A M' ∧ RowAt M' 32 row ∧ OB A q (((List.range (iG (aI A))).drop j).foldl (fun b g => if (sB (aS A)).contains g && !row.contains g then tryG (fun g => (sB (aS A)).contains g) (iG (aI A)) (ordLt A q) n (row ++ [g]) b else b) b) M' ∧ (∀ r, ((List.range (iG (aI A))).drop j).foldl (fun b g => if (sB (aS A)).contains g && !row.contains g then tryG (fun g => (sB (aS A)).contains g) (iG (aI A)) (ordLt A q) n (row ++ [g]) b else b) b = some r → BOk A r ∧ r.length ≤ (sB (aS A)).length) := by
      intro c
      induction c with
      | zero =>
        intro j m M b hj hm hb hM2 h38 hR hB
        obtain ⟨m, rfl⟩ : ∃ k, m = k + 1 := ⟨m - 1, by omega⟩
        rw [gi_1]
        generalize hz : gi _ m = zk
        dsimp only
        have hj : j = iG (aI A) := by omega
        subst hj
        unfold f_X12_triesBooked_110
        simp (disch := first | (with_reducible assumption) | (simp only [oi_si, oi_sl, oi_sa, oi_sm, oi_sv, oi_sq, ol_si, ol_sl, ol_sa, ol_sm, ol_sv, ol_sq, oa_si, oa_sl, oa_sa, oa_sm, oa_sv, oa_sq, om_si, om_sl, om_sa, om_sm, om_sv, om_sq, ov_si, ov_sl, ov_sa, ov_sm, ov_sv, ov_sq, oq_si, oq_sl, oq_sa, oq_sm, oq_sv, oq_sq, Nat.reduceEqDiff, ↓reduceIte]; done) | omega | (exact ixn (by omega) (by omega)) | (exact ixl (by decide) (by decide)) | (simp only [pt_len, pl, z0, z1, z2, z3, z4, z5, z6, z7, z8, z9, z10, z11, z12]; omega)) only [↓gb_m, ↓gc_m, ↓gl_s, ↓gg_m, gb_s, gc_s, gg_t, gqm_0, gqm_1, pt_pt, sa_sa, sm_sm, si_si, qk12, qg12_0, qs12_0, qg12_1, qg12_2, qs12_2, qg12_3, qs12_3, qg12_4, qg12_5, qg12_6, qg12_7, qs12_7, qg12_8, qs12_8, qg12_9, qg12_10, qg12_11, qg12_12, qg12_13, qs12_13, qg12_14, qg12_15, qg12_16, qg12_17, qg12_18, qs12_18, qg12_19, qg12_20, qg12_21, qg12_22, qg12_23, qs12_23, qg12_24, qs12_24, qg12_25, qs12_25, qg12_26, qs12_26, qg12_27, qs12_27, qg12_28, qs12_28, qg12_29, qg12_30, qs12_30, qg12_31, qg12_32, qg12_33, qg12_34, qg12_35, qg12_36, qs12_36, qg12_37, qs12_37, qg12_38, qs12_38, qg12_39, qs12_39, qg12_40, qs12_40, qg12_41, qg12_42, qs12_42, qg12_43, qs12_43, qg12_44, qs12_44, qg12_45, qs12_45, qg12_46, qs12_46, qg12_47, qa12_1, qe12_1, ql12_1, qa12_4, qe12_4, ql12_4, qa12_5, qe12_5, ql12_5, qa12_6, qe12_6, ql12_6, qa12_9, qe12_9, ql12_9, qa12_10, qe12_10, ql12_10, qa12_11, qe12_11, ql12_11, qa12_12, qe12_12, ql12_12, qa12_14, qe12_14, ql12_14, qa12_15, qe12_15, ql12_15, qa12_16, qe12_16, ql12_16, qa12_17, qe12_17, ql12_17, qa12_19, qe12_19, ql12_19, qa12_20, qe12_20, ql12_20, qa12_21, qe12_21, ql12_21, qa12_22, qe12_22, ql12_22, qa12_29, qe12_29, ql12_29, qa12_31, qe12_31, ql12_31, qa12_32, qe12_32, ql12_32, qa12_33, qe12_33, ql12_33, qa12_34, qe12_34, ql12_34, qa12_35, qe12_35, ql12_35, qa12_41, qe12_41, ql12_41, qa12_47, qe12_47, ql12_47, oi_si, oi_sl, oi_sa, oi_sm, oi_sv, oi_sq, ol_si, ol_sl, ol_sa, ol_sm, ol_sv, ol_sq, oa_si, oa_sl, oa_sa, oa_sm, oa_sv, oa_sq, om_si, om_sl, om_sa, om_sm, om_sv, om_sq, ov_si, ov_sl, ov_sa, ov_sm, ov_sv, ov_sq, oq_si, oq_sl, oq_sa, oq_sm, oq_sv, oq_sq, Nat.reduceEqDiff, ↓reduceIte, n_add, n_addl, n_ladd, n_add1, n_mul, n_lmul, n_mull, n_sub, n_subl, n_subm, n_lt, n_le, n_eq, n_ltl, n_llt, n_lel, n_lle, n_eql, n_leq, n_m1, n_m1l, n_lt0, n_ge0, i_okc, i_okl, if_true, if_false, not_true, not_false, Nat.not_lt_zero, Nat.zero_le, m_guests hF hM2.1.1, Nat.le_refl]
        rw [List.drop_of_length_le (by rw [List.length_range]; exact Nat.le_refl _)]
        exact ⟨M, rfl, Keep.rf, hM2, hR, hB, hb⟩
      | succ c ihc =>
        intro j m M b hj hm hb hM2 h38 hR hB
        obtain ⟨m, rfl⟩ : ∃ k, m = k + 1 := ⟨m - 1, by omega⟩
        rw [gi_1]
        generalize hz : gi _ m = zk
        dsimp only
        have b2 : (iG (aI A) ≤ j) = False := propext ⟨fun h => by omega, False.elim⟩
        have dr : (List.range (iG (aI A))).drop j = j :: (List.range (iG (aI A))).drop (j + 1) := by
          rw [List.drop_eq_getElem_cons (by rw [List.length_range]; omega), List.getElem_range]
        have n1 : (Int32.ofNat (msk (fun k => row.contains k) 10) >>> (Int32.ofNat j &&& 31)) &&& 1 = eB (decide (j < 10) && row.contains j) := msk_in _ (by omega)
        have j7 : decide (j < 10) = true := decide_eq_true (by omega)
        rw [j7, Bool.true_and] at n1
        have ib := m_isBooked (N := N) hF hN (seg_iff.mp hM2.2.1).2.2.2.2.2 bl hx (g := j) (by omega)
        rw [dr, List.foldl_cons]
        unfold f_X12_triesBooked_110 f_X12_triesBooked_153
        cases ci : (sB (aS A)).contains j with
        | false =>
          rw [ci] at ib
          obtain ⟨M', f1, f2⟩ := ihc (j + 1) m M b (by omega) (by omega) hb hM2 h38 hR hB
          rw [hz] at f1
          simp only [Bool.false_and, Bool.false_eq_true, if_false]
          refine ⟨M', ?_, f2⟩
          rw [← f1]
          simp (disch := first | (with_reducible assumption) | (simp only [oi_si, oi_sl, oi_sa, oi_sm, oi_sv, oi_sq, ol_si, ol_sl, ol_sa, ol_sm, ol_sv, ol_sq, oa_si, oa_sl, oa_sa, oa_sm, oa_sv, oa_sq, om_si, om_sl, om_sa, om_sm, om_sv, om_sq, ov_si, ov_sl, ov_sa, ov_sm, ov_sv, ov_sq, oq_si, oq_sl, oq_sa, oq_sm, oq_sv, oq_sq, Nat.reduceEqDiff, ↓reduceIte]; done) | omega | (exact ixn (by omega) (by omega)) | (exact ixl (by decide) (by decide)) | (simp only [pt_len, pl, z0, z1, z2, z3, z4, z5, z6, z7, z8, z9, z10, z11, z12]; omega)) only [↓gb_m, ↓gc_m, ↓gl_s, ↓gg_m, gb_s, gc_s, gg_t, gqm_0, gqm_1, pt_pt, sa_sa, sm_sm, si_si, qk12, qg12_0, qs12_0, qg12_1, qg12_2, qs12_2, qg12_3, qs12_3, qg12_4, qg12_5, qg12_6, qg12_7, qs12_7, qg12_8, qs12_8, qg12_9, qg12_10, qg12_11, qg12_12, qg12_13, qs12_13, qg12_14, qg12_15, qg12_16, qg12_17, qg12_18, qs12_18, qg12_19, qg12_20, qg12_21, qg12_22, qg12_23, qs12_23, qg12_24, qs12_24, qg12_25, qs12_25, qg12_26, qs12_26, qg12_27, qs12_27, qg12_28, qs12_28, qg12_29, qg12_30, qs12_30, qg12_31, qg12_32, qg12_33, qg12_34, qg12_35, qg12_36, qs12_36, qg12_37, qs12_37, qg12_38, qs12_38, qg12_39, qs12_39, qg12_40, qs12_40, qg12_41, qg12_42, qs12_42, qg12_43, qs12_43, qg12_44, qs12_44, qg12_45, qs12_45, qg12_46, qs12_46, qg12_47, qa12_1, qe12_1, ql12_1, qa12_4, qe12_4, ql12_4, qa12_5, qe12_5, ql12_5, qa12_6, qe12_6, ql12_6, qa12_9, qe12_9, ql12_9, qa12_10, qe12_10, ql12_10, qa12_11, qe12_11, ql12_11, qa12_12, qe12_12, ql12_12, qa12_14, qe12_14, ql12_14, qa12_15, qe12_15, ql12_15, qa12_16, qe12_16, ql12_16, qa12_17, qe12_17, ql12_17, qa12_19, qe12_19, ql12_19, qa12_20, qe12_20, ql12_20, qa12_21, qe12_21, ql12_21, qa12_22, qe12_22, ql12_22, qa12_29, qe12_29, ql12_29, qa12_31, qe12_31, ql12_31, qa12_32, qe12_32, ql12_32, qa12_33, qe12_33, ql12_33, qa12_34, qe12_34, ql12_34, qa12_35, qe12_35, ql12_35, qa12_41, qe12_41, ql12_41, qa12_47, qe12_47, ql12_47, oi_si, oi_sl, oi_sa, oi_sm, oi_sv, oi_sq, ol_si, ol_sl, ol_sa, ol_sm, ol_sv, ol_sq, oa_si, oa_sl, oa_sa, oa_sm, oa_sv, oa_sq, om_si, om_sl, om_sa, om_sm, om_sv, om_sq, ov_si, ov_sl, ov_sa, ov_sm, ov_sv, ov_sq, oq_si, oq_sl, oq_sa, oq_sm, oq_sv, oq_sq, Nat.reduceEqDiff, ↓reduceIte, n_add, n_addl, n_ladd, n_add1, n_mul, n_lmul, n_mull, n_sub, n_subl, n_subm, n_lt, n_le, n_eq, n_ltl, n_llt, n_lel, n_lle, n_eql, n_leq, n_m1, n_m1l, n_lt0, n_ge0, i_okc, i_okl, if_true, if_false, not_true, not_false, Nat.not_lt_zero, Nat.zero_le, m_guests hF hM2.1.1, b2, ib, eB0]
        | true =>
          rw [ci] at ib
          cases cj : row.contains j with
          | true =>
            rw [cj] at n1
            obtain ⟨M', f1, f2⟩ := ihc (j + 1) m M b (by omega) (by omega) hb hM2 h38 hR hB
            rw [hz] at f1
            simp only [Bool.not_true, Bool.and_false, Bool.false_eq_true, if_false]
            refine ⟨M', ?_, f2⟩
            rw [← f1]
            simp (disch := first | (with_reducible assumption) | (simp only [oi_si, oi_sl, oi_sa, oi_sm, oi_sv, oi_sq, ol_si, ol_sl, ol_sa, ol_sm, ol_sv, ol_sq, oa_si, oa_sl, oa_sa, oa_sm, oa_sv, oa_sq, om_si, om_sl, om_sa, om_sm, om_sv, om_sq, ov_si, ov_sl, ov_sa, ov_sm, ov_sv, ov_sq, oq_si, oq_sl, oq_sa, oq_sm, oq_sv, oq_sq, Nat.reduceEqDiff, ↓reduceIte]; done) | omega | (exact ixn (by omega) (by omega)) | (exact ixl (by decide) (by decide)) | (simp only [pt_len, pl, z0, z1, z2, z3, z4, z5, z6, z7, z8, z9, z10, z11, z12]; omega)) only [↓gb_m, ↓gc_m, ↓gl_s, ↓gg_m, gb_s, gc_s, gg_t, gqm_0, gqm_1, pt_pt, sa_sa, sm_sm, si_si, qk12, qg12_0, qs12_0, qg12_1, qg12_2, qs12_2, qg12_3, qs12_3, qg12_4, qg12_5, qg12_6, qg12_7, qs12_7, qg12_8, qs12_8, qg12_9, qg12_10, qg12_11, qg12_12, qg12_13, qs12_13, qg12_14, qg12_15, qg12_16, qg12_17, qg12_18, qs12_18, qg12_19, qg12_20, qg12_21, qg12_22, qg12_23, qs12_23, qg12_24, qs12_24, qg12_25, qs12_25, qg12_26, qs12_26, qg12_27, qs12_27, qg12_28, qs12_28, qg12_29, qg12_30, qs12_30, qg12_31, qg12_32, qg12_33, qg12_34, qg12_35, qg12_36, qs12_36, qg12_37, qs12_37, qg12_38, qs12_38, qg12_39, qs12_39, qg12_40, qs12_40, qg12_41, qg12_42, qs12_42, qg12_43, qs12_43, qg12_44, qs12_44, qg12_45, qs12_45, qg12_46, qs12_46, qg12_47, qa12_1, qe12_1, ql12_1, qa12_4, qe12_4, ql12_4, qa12_5, qe12_5, ql12_5, qa12_6, qe12_6, ql12_6, qa12_9, qe12_9, ql12_9, qa12_10, qe12_10, ql12_10, qa12_11, qe12_11, ql12_11, qa12_12, qe12_12, ql12_12, qa12_14, qe12_14, ql12_14, qa12_15, qe12_15, ql12_15, qa12_16, qe12_16, ql12_16, qa12_17, qe12_17, ql12_17, qa12_19, qe12_19, ql12_19, qa12_20, qe12_20, ql12_20, qa12_21, qe12_21, ql12_21, qa12_22, qe12_22, ql12_22, qa12_29, qe12_29, ql12_29, qa12_31, qe12_31, ql12_31, qa12_32, qe12_32, ql12_32, qa12_33, qe12_33, ql12_33, qa12_34, qe12_34, ql12_34, qa12_35, qe12_35, ql12_35, qa12_41, qe12_41, ql12_41, qa12_47, qe12_47, ql12_47, oi_si, oi_sl, oi_sa, oi_sm, oi_sv, oi_sq, ol_si, ol_sl, ol_sa, ol_sm, ol_sv, ol_sq, oa_si, oa_sl, oa_sa, oa_sm, oa_sv, oa_sq, om_si, om_sl, om_sa, om_sm, om_sv, om_sq, ov_si, ov_sl, ov_sa, ov_sm, ov_sv, ov_sq, oq_si, oq_sl, oq_sa, oq_sm, oq_sv, oq_sq, Nat.reduceEqDiff, ↓reduceIte, n_add, n_addl, n_ladd, n_add1, n_mul, n_lmul, n_mull, n_sub, n_subl, n_subm, n_lt, n_le, n_eq, n_ltl, n_llt, n_lel, n_lle, n_eql, n_leq, n_m1, n_m1l, n_lt0, n_ge0, i_okc, i_okl, if_true, if_false, not_true, not_false, Nat.not_lt_zero, Nat.zero_le, m_guests hF hM2.1.1, b2, ib, n1, eB0, Bool.true_eq_false]
          | false =>
            rw [cj] at n1
            have s1 := shl1 j (by omega)
            have p1 := msk_push (row := row) (j := j) (n := 10) (by omega) (by omega)
            have kk : Keep [32] M (sa M 32 (upd (oa M 32) row.length (Int32.ofNat j))) := k_sa (by decide)
            obtain ⟨M1, e1, e2, e2', e3, e4, e5⟩ := ih d (row ++ [j]) b (sa M 32 (upd (oa M 32) row.length (Int32.ofNat j))) (by rw [List.length_append]; show row.length + 1 + n = _; omega) (by omega) (by
              refine ⟨?_, ?_⟩
              · rw [List.nodup_append]
                refine ⟨hr.1, List.nodup_cons.mpr ⟨List.not_mem_nil, List.nodup_nil⟩, ?_⟩
                intro a ha b hb
                rw [List.mem_singleton.mp hb]
                intro z
                subst z
                rw [List.contains_iff_mem.mpr ha] at cj
                cases cj
              · intro x hx
                rcases List.mem_append.mp hx with z | z
                · exact hr.2 x z
                · rw [List.mem_singleton.mp z]
                  exact List.contains_iff_mem.mp ci) hb (hM2.kp kk (by decide)) (by rw [kk.i (by decide)]; exact h38) (by
              intro i x hx
              simp only [oi_si, oi_sl, oi_sa, oi_sm, oi_sv, oi_sq, ol_si, ol_sl, ol_sa, ol_sm, ol_sv, ol_sq, oa_si, oa_sl, oa_sa, oa_sm, oa_sv, oa_sq, om_si, om_sl, om_sa, om_sm, om_sv, om_sq, ov_si, ov_sl, ov_sa, ov_sm, ov_sv, ov_sq, oq_si, oq_sl, oq_sa, oq_sm, oq_sv, oq_sq, Nat.reduceEqDiff, ↓reduceIte]
              rw [upd_at]
              rcases Nat.lt_or_ge i row.length with z | z
              · rw [if_neg (by omega)]
                rw [List.getElem?_append_left z] at hx
                exact hR i x hx
              · have := ln_of hx
                rw [List.length_append] at this
                have this : i < row.length + 1 := this
                have hi : i = row.length := by omega
                subst hi
                rw [if_pos rfl]
                rw [List.getElem?_append_right (Nat.le_refl _), Nat.sub_self] at hx
                cases hx
                rfl) (by
              cases b with
              | none => exact hB
              | some r => exact hB)
            rw [List.length_append, List.length_singleton] at e1
            have e6 := (kk.up (B := kO) (by decide)).tr e2
            obtain ⟨M', f1, f2, f3⟩ := ihc (j + 1) m M1 (tryG (fun g => (sB (aS A)).contains g) (iG (aI A)) (ordLt A q) n (row ++ [j]) b) (by omega) (by omega) e5 e2' (by rw [e6.i (by decide)]; exact h38) (by
              intro i x hx
              exact e3 i x (by rw [List.getElem?_append_left (ln_of hx)]; exact hx)) e4
            rw [hz] at f1
            simp only [Bool.not_false, Bool.and_true, if_true]
            refine ⟨M', ?_, e6.tr f2, f3⟩
            rw [← f1]
            simp (disch := first | (with_reducible assumption) | (simp only [oi_si, oi_sl, oi_sa, oi_sm, oi_sv, oi_sq, ol_si, ol_sl, ol_sa, ol_sm, ol_sv, ol_sq, oa_si, oa_sl, oa_sa, oa_sm, oa_sv, oa_sq, om_si, om_sl, om_sa, om_sm, om_sv, om_sq, ov_si, ov_sl, ov_sa, ov_sm, ov_sv, ov_sq, oq_si, oq_sl, oq_sa, oq_sm, oq_sv, oq_sq, Nat.reduceEqDiff, ↓reduceIte]; done) | omega | (exact ixn (by omega) (by omega)) | (exact ixl (by decide) (by decide)) | (simp only [pt_len, pl, z0, z1, z2, z3, z4, z5, z6, z7, z8, z9, z10, z11, z12]; omega)) only [↓gb_m, ↓gc_m, ↓gl_s, ↓gg_m, gb_s, gc_s, gg_t, gqm_0, gqm_1, pt_pt, sa_sa, sm_sm, si_si, qk12, qg12_0, qs12_0, qg12_1, qg12_2, qs12_2, qg12_3, qs12_3, qg12_4, qg12_5, qg12_6, qg12_7, qs12_7, qg12_8, qs12_8, qg12_9, qg12_10, qg12_11, qg12_12, qg12_13, qs12_13, qg12_14, qg12_15, qg12_16, qg12_17, qg12_18, qs12_18, qg12_19, qg12_20, qg12_21, qg12_22, qg12_23, qs12_23, qg12_24, qs12_24, qg12_25, qs12_25, qg12_26, qs12_26, qg12_27, qs12_27, qg12_28, qs12_28, qg12_29, qg12_30, qs12_30, qg12_31, qg12_32, qg12_33, qg12_34, qg12_35, qg12_36, qs12_36, qg12_37, qs12_37, qg12_38, qs12_38, qg12_39, qs12_39, qg12_40, qs12_40, qg12_41, qg12_42, qs12_42, qg12_43, qs12_43, qg12_44, qs12_44, qg12_45, qs12_45, qg12_46, qs12_46, qg12_47, qa12_1, qe12_1, ql12_1, qa12_4, qe12_4, ql12_4, qa12_5, qe12_5, ql12_5, qa12_6, qe12_6, ql12_6, qa12_9, qe12_9, ql12_9, qa12_10, qe12_10, ql12_10, qa12_11, qe12_11, ql12_11, qa12_12, qe12_12, ql12_12, qa12_14, qe12_14, ql12_14, qa12_15, qe12_15, ql12_15, qa12_16, qe12_16, ql12_16, qa12_17, qe12_17, ql12_17, qa12_19, qe12_19, ql12_19, qa12_20, qe12_20, ql12_20, qa12_21, qe12_21, ql12_21, qa12_22, qe12_22, ql12_22, qa12_29, qe12_29, ql12_29, qa12_31, qe12_31, ql12_31, qa12_32, qe12_32, ql12_32, qa12_33, qe12_33, ql12_33, qa12_34, qe12_34, ql12_34, qa12_35, qe12_35, ql12_35, qa12_41, qe12_41, ql12_41, qa12_47, qe12_47, ql12_47, oi_si, oi_sl, oi_sa, oi_sm, oi_sv, oi_sq, ol_si, ol_sl, ol_sa, ol_sm, ol_sv, ol_sq, oa_si, oa_sl, oa_sa, oa_sm, oa_sv, oa_sq, om_si, om_sl, om_sa, om_sm, om_sv, om_sq, ov_si, ov_sl, ov_sa, ov_sm, ov_sv, ov_sq, oq_si, oq_sl, oq_sa, oq_sm, oq_sv, oq_sq, Nat.reduceEqDiff, ↓reduceIte, n_add, n_addl, n_ladd, n_add1, n_mul, n_lmul, n_mull, n_sub, n_subl, n_subm, n_lt, n_le, n_eq, n_ltl, n_llt, n_lel, n_lle, n_eql, n_leq, n_m1, n_m1l, n_lt0, n_ge0, i_okc, i_okl, if_true, if_false, not_true, not_false, Nat.not_lt_zero, Nat.zero_le, m_guests hF hM2.1.1, b2, ib, n1, eB0, Bool.true_eq_false, s1, p1, gnar_0, e1]
    obtain ⟨M', f1, f2⟩ := key (iG (aI A)) 0 N M b (by omega) (by omega) hb hM' h38 hR hB
    refine ⟨M', ?_, f2⟩
    have bk := m_booked (N := N) hF (seg_iff.mpr (seg_iff.mp hM'.2.1))
    unfold b_X12_triesBooked
    have c : (row.length = (sB (aS A)).length) = False := propext ⟨fun h => by omega, False.elim⟩
    simp (disch := first | (with_reducible assumption) | (simp only [oi_si, oi_sl, oi_sa, oi_sm, oi_sv, oi_sq, ol_si, ol_sl, ol_sa, ol_sm, ol_sv, ol_sq, oa_si, oa_sl, oa_sa, oa_sm, oa_sv, oa_sq, om_si, om_sl, om_sa, om_sm, om_sv, om_sq, ov_si, ov_sl, ov_sa, ov_sm, ov_sv, ov_sq, oq_si, oq_sl, oq_sa, oq_sm, oq_sv, oq_sq, Nat.reduceEqDiff, ↓reduceIte]; done) | omega | (exact ixn (by omega) (by omega)) | (exact ixl (by decide) (by decide)) | (simp only [pt_len, pl, z0, z1, z2, z3, z4, z5, z6, z7, z8, z9, z10, z11, z12]; omega)) only [↓gb_m, ↓gc_m, ↓gl_s, ↓gg_m, gb_s, gc_s, gg_t, gqm_0, gqm_1, pt_pt, sa_sa, sm_sm, si_si, qk12, qg12_0, qs12_0, qg12_1, qg12_2, qs12_2, qg12_3, qs12_3, qg12_4, qg12_5, qg12_6, qg12_7, qs12_7, qg12_8, qs12_8, qg12_9, qg12_10, qg12_11, qg12_12, qg12_13, qs12_13, qg12_14, qg12_15, qg12_16, qg12_17, qg12_18, qs12_18, qg12_19, qg12_20, qg12_21, qg12_22, qg12_23, qs12_23, qg12_24, qs12_24, qg12_25, qs12_25, qg12_26, qs12_26, qg12_27, qs12_27, qg12_28, qs12_28, qg12_29, qg12_30, qs12_30, qg12_31, qg12_32, qg12_33, qg12_34, qg12_35, qg12_36, qs12_36, qg12_37, qs12_37, qg12_38, qs12_38, qg12_39, qs12_39, qg12_40, qs12_40, qg12_41, qg12_42, qs12_42, qg12_43, qs12_43, qg12_44, qs12_44, qg12_45, qs12_45, qg12_46, qs12_46, qg12_47, qa12_1, qe12_1, ql12_1, qa12_4, qe12_4, ql12_4, qa12_5, qe12_5, ql12_5, qa12_6, qe12_6, ql12_6, qa12_9, qe12_9, ql12_9, qa12_10, qe12_10, ql12_10, qa12_11, qe12_11, ql12_11, qa12_12, qe12_12, ql12_12, qa12_14, qe12_14, ql12_14, qa12_15, qe12_15, ql12_15, qa12_16, qe12_16, ql12_16, qa12_17, qe12_17, ql12_17, qa12_19, qe12_19, ql12_19, qa12_20, qe12_20, ql12_20, qa12_21, qe12_21, ql12_21, qa12_22, qe12_22, ql12_22, qa12_29, qe12_29, ql12_29, qa12_31, qe12_31, ql12_31, qa12_32, qe12_32, ql12_32, qa12_33, qe12_33, ql12_33, qa12_34, qe12_34, ql12_34, qa12_35, qe12_35, ql12_35, qa12_41, qe12_41, ql12_41, qa12_47, qe12_47, ql12_47, oi_si, oi_sl, oi_sa, oi_sm, oi_sv, oi_sq, ol_si, ol_sl, ol_sa, ol_sm, ol_sv, ol_sq, oa_si, oa_sl, oa_sa, oa_sm, oa_sv, oa_sq, om_si, om_sl, om_sa, om_sm, om_sv, om_sq, ov_si, ov_sl, ov_sa, ov_sm, ov_sv, ov_sq, oq_si, oq_sl, oq_sa, oq_sm, oq_sv, oq_sq, Nat.reduceEqDiff, ↓reduceIte, n_add, n_addl, n_ladd, n_add1, n_mul, n_lmul, n_mull, n_sub, n_subl, n_subm, n_lt, n_le, n_eq, n_ltl, n_llt, n_lel, n_lle, n_eql, n_leq, n_m1, n_m1l, n_lt0, n_ge0, i_okc, i_okl, if_true, if_false, not_true, not_false, Nat.not_lt_zero, Nat.zero_le, bk, c]
    exact f1
/-- some order is found -/
theorem tryG_s {ok : Nat → Bool} {G : Nat} {lt : List Nat → List Nat → Bool} : ∀ n row b, (∃ r, b = some r) → ∃ r, tryG ok G lt n row b = some r := by
  intro n
  induction n with
  | zero =>
    rintro row b ⟨r, rfl⟩
    unfold tryG
    show ∃ x, (if lt row r = true then some row else some r) = some x
    split
    · exact ⟨row, rfl⟩
    · exact ⟨r, rfl⟩
  | succ n ih =>
    intro row b h
    unfold tryG
    refine fold_inv (P := fun b => ∃ r, b = some r) _ b h (fun b a _ hb => ?_)
    split
    · exact ih _ _ hb
    · exact hb
theorem fold_ex {α β : Type} {f : β → α → β} {P : β → Prop} (hp : ∀ b a, P b → P (f b a)) : ∀ (l : List α) (b : β), (∃ a, a ∈ l ∧ ∀ b, P (f b a)) → P (l.foldl f b) := by
  intro l
  induction l with
  | nil => rintro b ⟨a, h, _⟩; cases h
  | cons x l ih =>
    rintro b ⟨a, h, hv⟩
    rcases List.mem_cons.mp h with z | z
    · subst z
      rw [List.foldl_cons]
      exact fold_inv (P := P) l _ (hv b) (fun y c _ hy => hp y c hy)
    · exact ih _ ⟨a, z, hv⟩
theorem tryG_ex {ok : Nat → Bool} {G : Nat} {lt : List Nat → List Nat → Bool} : ∀ n row b c, c.length = n → (row ++ c).Nodup → (∀ g, g ∈ c → ok g = true ∧ g < G) → ∃ r, tryG ok G lt n row b = some r := by
  intro n
  induction n with
  | zero =>
    intro row b c hc hn hg
    unfold tryG
    cases b with
    | none => exact ⟨row, rfl⟩
    | some r =>
      show ∃ x, (if lt row r = true then some row else some r) = some x
      split
      · exact ⟨row, rfl⟩
      · exact ⟨r, rfl⟩
  | succ n ih =>
    intro row b c hc hn hg
    match c, hc, hn, hg with
    | j :: c, hc, hn, hg =>
      unfold tryG
      have hj := hg j (List.mem_cons_self ..)
      refine fold_ex (P := fun b => ∃ r, b = some r) (fun b a hb => ?_) _ b ⟨j, List.mem_range.mpr hj.2, fun b => ?_⟩
      · split
        · exact tryG_s _ _ _ hb
        · exact hb
      · have hcj : row.contains j = false := by
          rw [← Bool.not_eq_true]
          intro z
          exact (List.nodup_append.mp hn).2.2 j (List.contains_iff_mem.mp z) j (List.mem_cons_self ..) rfl
        rw [hj.1, hcj, if_pos (by rfl)]
        exact ih _ _ c (by simpa using hc) (by simpa using hn) (fun g h => hg g (List.mem_cons_of_mem _ h))
def ordOk (A : AA) (g w : Int32) : Bool := isN g (iG (aI A)) && isN w (2 + (sB (aS A)).length) && decide ((sB (aS A)).length ≠ 0) && decide (nInS (sE (aS A)) + (sB (aS A)).length ≤ iR (aI A)) && ((sB (aS A)).contains g.toNatClampNeg || insS (sE (aS A)) g.toNatClampNeg)
def ordBest (A : AA) (q : Nat) : List Nat := (tryG (fun g => (sB (aS A)).contains g) (iG (aI A)) (ordLt A q) (sB (aS A)).length [] none).getD []
def ansOrder (A : AA) (g w : Int32) : Int32 := if ordOk A g w then (if w = 0 then Int32.ofNat (ordM A g.toNatClampNeg (ordBest A g.toNatClampNeg)) else if w = 1 then Int32.ofNat (ordP A (ordBest A g.toNatClampNeg)) else Int32.ofNat ((ordBest A g.toNatClampNeg).getD (w.toNatClampNeg - 2) 0)) else -1
end MOrder

