/-! The component reads: a part of a rule, and the whole rule -/
theorem good0 : Good 0 (pPart 0) := by
  intro ts hv cs t h
  unfold pPart at h
  split at h <;> cases h
theorem goodp : ∀ k, Good (4 * k) (pPart k) := by
  intro k
  cases k with
  | zero => exact good0
  | succ k => exact (Good.part k).up (by omega)
section CPart
variable {N : Nat} {h : PH} {c : Nat} {T : List Nat}
theorem c_part (hc : 66 ≤ c) (hl : c + 7 ≤ h.length) (hN : 2000 ≤ N) (hT : TOk T) {FL : Nat → Int32 → Int32 → PH → Option (Int32 × PH)} {FP : Nat → Int32 → PH → Option (Int32 × PH)} {k w : Nat} (hw : w + k = 5) (hF : ∀ k', k = k' + 1 → CCp c h T (FP 3 (Int32.ofNat (w + 1))) (pPart k') ∧ CCp c h T (FL 3 0 (Int32.ofNat (w + 1))) (pAll (pPart k'))) : CCp c h T (b_X3_readPart N FL FP 3 (Int32.ofNat w)) (pPart k) := by
  intro ts R D E cs q hR hC hle
  obtain ⟨a1, a2, a3⟩ := H3_at (h := h) (R := R) (D := D) (E := E) hc hl
  have ga : gfR 3 0 3 (H3 c h R D E) = some 1 := a1.gV (k := 0) rfl rfl hR.1
  have gk : gfI 10 2 1 (H3 c h R D E) = some (Int32.ofNat (kd (hd ts))) := by rw [a2.gI (k := 2) rfl rfl, q.2.2.2.1]
  have w6 := r_word (N := N) (h := h) (R := R) (E := E) hc hl hN hT q (k := 6) (by decide)
  rw [show wdL.getD 6 [] = wNot from rfl] at w6
  have k1 := kd_sg q.2.1 (s := 40) (by omega) (by omega)
  have t1 : (40 : Int32) = Int32.ofNat 40 := rfl
  -- the atom
  have start : b_X3_readPart N FL FP 3 (Int32.ofNat w) (H3 c h R D E) = f_X3_readPart_35 N FL FP 3 (Int32.ofNat w) (eB (isWd wNot ts)) (aId (atomS ts)) (H3 c h R D E) := by
    unfold b_X3_readPart
    rw [ga, gb_s, a2.is rfl, gg_t, w6, gc_s, ga, gb_s, gk, gb_s]
    by_cases z : (hd ts).1 = 2
    · have kk : Int32.ofNat (kd (hd ts)) = 2 := by rw [kd_num q.2.1]; exact z
      have e1 : atomS ts = some (1, v10 (hd ts).2.2) := by unfold atomS; rw [if_pos z]
      rw [if_pos kk, gb_s, a2.gI (k := 4) rfl rfl, gb_s, q.2.2.2.2.2.1 z, e1]
      rfl
    · have kk : ¬ Int32.ofNat (kd (hd ts)) = 2 := by rw [kd_num q.2.1]; exact z
      have e1 : atomS ts = (fctS ts).map (fun k => (2, k)) := by
        unfold atomS
        rw [if_neg z]
        cases fctS ts <;> rfl
      rw [if_neg kk, a1.is rfl, gg_t, c_fact hc hl hN hT hR q, gc_s, e1]
  have s63 : ∀ zn za, f_X3_readPart_63 N FL FP 3 (Int32.ofNat w) zn za (H3 c h R D E) = if w < 5 then f_X3_readPart_91 N FL FP 3 (Int32.ofNat w) zn za (eB (isSg 40 ts)) (H3 c h R D E) else some (0, H3 c h (si R 2 (Int32.ofNat (flt 5 ts))) D E) := by
    intro zn za
    unfold f_X3_readPart_63
    by_cases z : w < 5
    · have n1 : (Int32.ofNat w < (5 : Int32)) = True := nltT (b := 5) z (by omega) (by omega)
      rw [if_pos (of_eq_true n1), if_pos z, ga, gb_s, gk, gb_s, t1]
      simp only [k1]
      cases isSg 40 ts with
      | true => rfl
      | false => rfl
    · have n1 : (Int32.ofNat w < (5 : Int32)) = False := nltF (b := 5) z (by omega) (by omega)
      rw [if_neg (of_eq_false n1), if_neg z, a1.is rfl, gg_t, r_wrong hc hl hR q (k := 5) (kI := 5) rfl, gc_s, gzb0, gg_t]
  have e5 : oi (si R 2 (Int32.ofNat (flt 5 ts))) 2 = Int32.ofNat (flt 5 ts) := by rw [oi_si, if_pos rfl]
  have e6 : oi (si R 2 (Int32.ofNat (flt 1 ts))) 2 = Int32.ofNat (flt 1 ts) := by rw [oi_si, if_pos rfl]
  have t10 : ¬ (1 : Int32) = 0 := by decide
  have a147 : ∀ (nt : Bool) (x : Cd) (D2 E2 R2 : OD) (cs2 : List Cd), RR c R2 → CCo cs2 E2 → cs2.length < 1000 → ∃ E3, f_X3_readPart_147 N FL FP 3 (eB nt) (cCd x) (H3 c h R2 D2 E2) = some (1, H3 c h R2 D2 E3) ∧ Keep [9, 11] E2 E3 ∧ CCo (cs2 ++ [if nt then (3, 0) else x]) E3 := by
    intro nt x D2 E2 R2 cs2 hR2 hC2 hn2
    obtain ⟨E3, b1, b2, b3⟩ := r_code (N := N) (h := h) (R := R2) (D := D2) hc hl hC2 hn2 (if nt then (3, 0) else x)
    refine ⟨E3, ?_, b2, b3⟩
    have y := H3_at (h := h) (R := R2) (D := D2) (E := E2) hc hl
    unfold f_X3_readPart_147 f_X3_readPart_162
    rw [y.1.gV (k := 1) rfl rfl hR2.2, gb_s, y.2.2.is rfl, gg_t, gg_t]
    cases nt with
    | true =>
      have : cCd (if true = true then (3, 0) else x) = 10008 := rfl
      rw [this] at b1
      rw [if_neg (eBt _ rfl), b1, gb_s, gzb1, gg_t]
    | false =>
      have : cCd (if false = true then (3, 0) else x) = cCd x := rfl
      rw [this] at b1
      rw [if_pos (eBf _ rfl), b1, gb_s, gzb1, gg_t]
  rw [start]
  unfold f_X3_readPart_35
  cases hnt : isWd wNot ts with
  | true =>
    have sg : isSg 40 ts = false := by
      cases z : isSg 40 ts with
      | false => rfl
      | true =>
        have := (isWd_k hnt).1
        rw [(isSg_k z).1] at this
        cases this
    rw [if_neg (eBt _ rfl), s63, sg]
    cases k with
    | zero =>
      rw [if_neg (by omega)]
      refine ⟨0, _, D, E, rfl, hR.si _, Keep.rf, ?_⟩
      unfold pPart
      rw [hnt, Bool.true_or, Bool.true_or, if_pos rfl]
      exact ⟨rfl, e5⟩
    | succ k =>
      rw [if_pos (by omega)]
      have hk0 : (hd ts).1 ≠ 0 := by rw [(isWd_k hnt).1]; decide
      obtain ⟨D1, b1, b2⟩ := r_adv (N := N) (h := h) (R := R) (E := E) hc hl hN hT q hk0
      have l1 := (Suf.tl q.2.1 hk0).len
      obtain ⟨v, R2, D2, E2, c1, c2, c3, c4⟩ := (hF k rfl).1 ts.tail R D1 E cs b2 hR hC (by omega)
      have y := H3_at (h := h) (R := R) (D := D1) (E := E) hc hl
      unfold f_X3_readPart_91 pPart
      rw [ga, gb_s, a2.is rfl, gg_t, b1, gb_s, if_pos (eBf _ rfl), if_neg (eBt _ rfl), y.1.is rfl, gg_t, n_add1, c1, gc_s, hnt, if_pos rfl]
      cases hs : pPart k ts.tail with
      | inl f =>
        rw [hs] at c4
        dsimp only at c4
        obtain ⟨rfl, c5⟩ := c4
        rw [if_pos rfl, gzb0, gg_t]
        exact ⟨0, R2, D2, E2, rfl, c2, c3, rfl, c5⟩
      | inr x =>
        rw [hs] at c4
        dsimp only at c4
        obtain ⟨rfl, c5, c6⟩ := c4
        obtain ⟨g1, g2, _⟩ := goodp k ts.tail b2.2.1 x.1 x.2 hs
        have p1 := g1.tv.pos
        have av : ∃ x0, aId (atomS ts) = cCd x0 := by
          cases atomS ts with
          | some x0 => exact ⟨x0, rfl⟩
          | none => exact ⟨(1, 4294967295), by decide⟩
        obtain ⟨x0, hx0⟩ := av
        obtain ⟨E3, b3, b4, b5⟩ := a147 true x0 D2 E2 R2 (cs ++ x.1) c2 c6 (by rw [List.length_append]; omega)
        rw [if_neg t10, hx0, b3]
        refine ⟨1, R2, D2, E3, rfl, c2, c3.tr b4, rfl, c5, ?_⟩
        rw [List.append_assoc] at b5
        exact b5
  | false =>
    rw [if_pos (eBf _ rfl), ga, gb_s, gk, gb_s, t1]
    simp only [k1]
    cases hsg : isSg 40 ts with
    | true =>
      rw [if_pos rfl, s63, hsg]
      cases k with
      | zero =>
        rw [if_neg (by omega)]
        refine ⟨0, _, D, E, rfl, hR.si _, Keep.rf, ?_⟩
        unfold pPart
        rw [hnt, hsg, Bool.or_true, Bool.true_or, if_pos rfl]
        exact ⟨rfl, e5⟩
      | succ k =>
        rw [if_pos (by omega)]
        have hk0 : (hd ts).1 ≠ 0 := by rw [(isSg_k hsg).1]; decide
        obtain ⟨D1, b1, b2⟩ := r_adv (N := N) (h := h) (R := R) (E := E) hc hl hN hT q hk0
        have l1 := (Suf.tl q.2.1 hk0).len
        obtain ⟨v, R2, D2, E2, c1, c2, c3, c4⟩ := (hF k rfl).2 ts.tail R D1 E cs b2 hR hC (by omega)
        have y := H3_at (h := h) (R := R) (D := D1) (E := E) hc hl
        have y2 := H3_at (h := h) (R := R2) (D := D2) (E := E2) hc hl
        have ff : ¬ (false = true) := by decide
        unfold f_X3_readPart_91 pPart f_X3_readPart_129 f_X3_readPart_130
        rw [ga, gb_s, a2.is rfl, gg_t, b1, gb_s, if_neg (eBt _ rfl), y.1.is rfl, gg_t, n_add1, c1, gc_s, hnt, if_neg ff, hsg, if_pos rfl]
        cases hs : pAll (pPart k) ts.tail with
        | inl f =>
          rw [hs] at c4
          dsimp only at c4
          obtain ⟨rfl, c5⟩ := c4
          rw [if_pos rfl, gzb0, gg_t]
          exact ⟨0, R2, D2, E2, rfl, c2, c3, rfl, c5⟩
        | inr x =>
          rw [hs] at c4
          dsimp only at c4
          obtain ⟨rfl, c5, c6⟩ := c4
          obtain ⟨v, R3, D3, s1, s2, s3⟩ := r_takeSg (N := N) (h := h) (E := E2) hc hl hN hT c2 c5 (s := 41) (sI := 41) rfl (by omega) (by omega)
          rw [if_neg t10, y2.1.is rfl, gg_t, s1, gc_s]
          dsimp only
          cases hs2 : isSg 41 x.2 with
          | true =>
            rw [hs2, if_pos rfl] at s3
            obtain ⟨rfl, s4⟩ := s3
            rw [if_neg t10, gzb1, gg_t]
            exact ⟨1, R3, D3, E2, rfl, s2, c3, rfl, s4, c6⟩
          | false =>
            rw [hs2, if_neg ff] at s3
            obtain ⟨rfl, s4⟩ := s3
            rw [if_pos rfl, gzb0, gg_t]
            exact ⟨0, R3, D3, E2, rfl, s2, c3, rfl, s4⟩
    | false =>
      have ff : ¬ (false = true) := by decide
      rw [if_neg ff]
      cases hat : atomS ts with
      | none =>
        have ea : aId none = -1 := rfl
        rw [if_pos ea, a1.is rfl, gg_t, r_wrong hc hl hR q (k := 1) (kI := 1) rfl, gc_s, gzb0, gg_t]
        refine ⟨0, _, D, E, rfl, hR.si _, Keep.rf, ?_⟩
        cases k with
        | zero =>
          unfold pPart
          rw [hnt, hsg, hat]
          exact ⟨rfl, e6⟩
        | succ k =>
          unfold pPart
          rw [hnt, hsg, hat]
          exact ⟨rfl, e6⟩
      | some x =>
        obtain ⟨hk0, hx⟩ := atom_k q.2.1 hat
        have ea : ¬ aId (some x) = -1 := by
          obtain ⟨x1, x2⟩ := x
          show ¬ cCd (x1, x2) = -1
          have key : ∀ n, n < 1000000 → ¬ Int32.ofNat n = -1 := by
            intro n hn z
            have := congrArg Int32.toInt z
            rw [i_ok (by omega)] at this
            have t : (-1 : Int32).toInt = -1 := by decide
            rw [t] at this
            omega
          rcases hx with ⟨rfl, hx⟩ | ⟨rfl, hx⟩
          · exact key x2 (by have hx : x2 < 10000 := hx; omega)
          · exact key (10000 + x2) (by have hx : x2 < 8 := hx; omega)
        rw [if_neg ea, s63, hsg]
        cases k with
        | zero =>
          rw [if_neg (by omega)]
          refine ⟨0, _, D, E, rfl, hR.si _, Keep.rf, ?_⟩
          unfold pPart
          rw [hnt, hsg, hat]
          exact ⟨rfl, e5⟩
        | succ k =>
          rw [if_pos (by omega)]
          obtain ⟨D1, b1, b2⟩ := r_adv (N := N) (h := h) (R := R) (E := E) hc hl hN hT q hk0
          have l1 := (Suf.tl q.2.1 hk0).len
          have p1 := b2.2.1.pos
          obtain ⟨E3, b3, b4, b5⟩ := a147 false x D1 E R cs hR hC (by omega)
          have ea2 : aId (some x) = cCd x := rfl
          unfold f_X3_readPart_91 pPart
          rw [ga, gb_s, a2.is rfl, gg_t, b1, gb_s, if_pos (eBf _ rfl), if_pos (eBf _ rfl), ea2, b3]
          refine ⟨1, R, D1, E3, rfl, hR, b4, ?_⟩
          rw [hnt, hsg, hat]
          exact ⟨rfl, b2, b5⟩
theorem c_all (hc : 66 ≤ c) (hl : c + 7 ≤ h.length) (hN : 2000 ≤ N) (hT : TOk T) {w : Int32} {P : List Tok → PR} {g d : Nat} (hg : Good g P) (hP : CCp c h T ((g_gR N d).2 3 w) P) : CCp c h T ((g_gR N (d + 5)).1 3 0 w) (pAll P) := by
  have l4 : CCp c h T ((g_gR N (d + 1)).1 3 4 w) P := by
    intro ts R D E cs q hR hC hle
    obtain ⟨v, R2, D2, E2, c1, c2, c3, c4⟩ := hP ts R D E cs q hR hC hle
    refine ⟨v, R2, D2, E2, ?_, c2, c3, c4⟩
    show b_X3_readLevel N (g_gR N d).1 (g_gR N d).2 3 4 w (H3 c h R D E) = _
    unfold b_X3_readLevel
    have n4 : ¬ (4 : Int32) < 4 := by decide
    have vb : gzb v = true := by
      cases hs : P ts with
      | inl f => rw [hs] at c4; rw [c4.1]; exact gzb0
      | inr x => rw [hs] at c4; rw [c4.1]; exact gzb1
    rw [if_neg n4, (H3_at (h := h) (R := R) (D := D) (E := E) hc hl).1.is rfl, gg_t, c1, gc_s, vb, gg_t]
  have l3 := c_level (FP := (g_gR N (d + 1)).2) hc hl hN hT (lv := 3) (w := w) hg (by exact l4) (fun R D E ts hR q => c_deed3 hc hl hR q) dMul_k (most := 1000) (by omega) (by decide) rfl
  have l2 := c_level (FL := (g_gR N (d + 2)).1) (FP := (g_gR N (d + 2)).2) hc hl hN hT (lv := 2) (w := w) (hg.join dMul_k 1000) (by exact l3) (fun R D E ts hR q => c_deed2 hc hl hR q) dSum_k (most := 1000) (by omega) (by decide) rfl
  have l1 := c_level (FL := (g_gR N (d + 3)).1) (FP := (g_gR N (d + 3)).2) hc hl hN hT (lv := 1) (w := w) ((hg.join dMul_k 1000).join dSum_k 1000) (by exact l2) (fun R D E ts hR q => c_deed1 hc hl hR q) dCmp_k (most := 1) (by omega) (by decide) rfl
  have l0 := c_level (FL := (g_gR N (d + 4)).1) (FP := (g_gR N (d + 4)).2) hc hl hN hT (lv := 0) (w := w) (((hg.join dMul_k 1000).join dSum_k 1000).join dCmp_k 1) (by exact l1) (fun R D E ts hR q => c_deed0 hc hl hN hT hR q) dAnd_k (most := 1000) (by omega) (by decide) rfl
  exact l0
theorem c_parts (hc : 66 ≤ c) (hl : c + 7 ≤ h.length) (hN : 2000 ≤ N) (hT : TOk T) : ∀ k w d, w + k = 5 → 6 * k + 1 ≤ d → CCp c h T ((g_gR N d).2 3 (Int32.ofNat w)) (pPart k) := by
  intro k
  induction k with
  | zero =>
    intro w d hw hd
    obtain ⟨d, rfl⟩ : ∃ j, d = j + 1 := ⟨d - 1, by omega⟩
    exact c_part hc hl hN hT hw (fun k' z => by cases z)
  | succ k ih =>
    intro w d hw hd
    obtain ⟨d, rfl⟩ : ∃ j, d = j + 5 + 1 := ⟨d - 6, by omega⟩
    refine c_part hc hl hN hT hw (fun k' z => ?_)
    cases z
    exact ⟨ih (w + 1) (d + 5) (by omega) (by omega), c_all hc hl hN hT (goodp k) (ih (w + 1) d (by omega) (by omega))⟩
theorem c_ruleR (hc : 66 ≤ c) (hl : c + 7 ≤ h.length) (hN : 2000 ≤ N) (hT : TOk T) : CCp c h T (f_X3_readLevel N 3 0 0) (pAll (pPart 5)) := c_all (d := 59) hc hl hN hT (goodp 5) (c_parts hc hl hN hT 5 0 59 (by omega) (by omega))
end CPart

