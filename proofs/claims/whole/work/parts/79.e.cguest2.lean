/-! The component reads: a guest's line, and any line -/
theorem eo1 : eB false ||| eB true = eB true := by decide
theorem eo2 (b : Bool) : eB b ||| eB false = eB b := by cases b <;> decide
theorem eo3 (b : Bool) : eB b ||| 0 = eB b := by cases b <;> decide
theorem eo4 : eB false ||| 1 = eB true := by decide
section CGuest2
variable {N : Nat} {h : PH} {c : Nat} {T : List Nat}
theorem c_ext (hc : 66 ≤ c) (hl : c + 7 ≤ h.length) (hN : 2000 ≤ N) (hT : TOk T) {E : OD} {n0 : Nat} (hn : n0 < 10) (h1 : oi E 1 = Int32.ofNat n0) (w : List Nat) (vt : Nat) : ∀ n k b i m R D ts, k + n = 3 → n < m → CK T ts D → RR c R → ∃ v R' D' E', gi (fun zk zs => f_X3_readExtras_9 N zk zs.1 zs.2.1 zs.2.2.1 zs.2.2.2.1 zs.2.2.2.2.1 zs.2.2.2.2.2.1 zs.2.2.2.2.2.2) m (3, Int64.ofNat (v32 w), Int32.ofNat vt, eB b, eB i, Int32.ofNat k, H3 c h R D E) = some (v, H3 c h R' D' E') ∧ RR c R' ∧ match pExt n b i ts with
    | .inl f => v = 0 ∧ oi R' 2 = Int32.ofNat f ∧ E' = E
    | .inr y => v = 1 ∧ CK T y.2 D' ∧ E' = gst E n0 w vt y.1.1 y.1.2 := by
  have fin : ∀ b i R D, RR c R → f_X3_readExtras_105 N 3 (Int64.ofNat (v32 w)) (Int32.ofNat vt) (eB b) (eB i) (H3 c h R D E) = some (1, H3 c h R D (gst E n0 w vt b i)) := by
    intro b i R D hR
    have y := H3_at (h := h) (R := R) (D := D) (E := E) hc hl
    unfold f_X3_readExtras_105
    rw [y.1.gV (k := 1) rfl rfl hR.2, gb_s, y.2.2.is rfl, gg_t, c_addGuest hc hl hn h1, gb_s, gzb1, gg_t]
  have wr : ∀ R D ts, RR c R → CK T ts D → f_X3_readExtras_64 N 3 (H3 c h R D E) = some (0, H3 c h (si R 2 (Int32.ofNat (flt 3 ts))) D E) := by
    intro R D ts hR q
    have y := H3_at (h := h) (R := R) (D := D) (E := E) hc hl
    unfold f_X3_readExtras_64
    rw [y.1.is rfl, gg_t, r_wrong hc hl hR q (k := 3) (kI := 3) rfl, gc_s, gzb0, gg_t]
  intro n
  induction n with
  | zero =>
    intro k b i m R D ts hk hm q hR
    refine ⟨1, R, D, gst E n0 w vt b i, ?_, hR, rfl, q, rfl⟩
    obtain ⟨m, rfl⟩ : ∃ k, m = k + 1 := ⟨m - 1, by omega⟩
    rw [gi_1]
    generalize hz : gi _ m = zk
    dsimp only
    unfold f_X3_readExtras_9
    have n1 : ((3 : Int32) ≤ Int32.ofNat k) = True := nleT (a := 3) (by omega) (by omega) (by omega)
    rw [if_pos (of_eq_true n1), fin b i R D hR]
  | succ n ih =>
    intro k b i m R D ts hk hm q hR
    have y := H3_at (h := h) (R := R) (D := D) (E := E) hc hl
    have n1 : ((3 : Int32) ≤ Int32.ofNat k) = False := nleF (a := 3) (by omega) (by omega) (by omega)
    have ga : gfR 3 0 3 (H3 c h R D E) = some 1 := y.1.gV (k := 0) rfl rfl hR.1
    have gis : gIs 10 1 (H3 c h R D E) = true := y.2.1.is rfl
    have w3 := r_word (N := N) (h := h) (R := R) (E := E) hc hl hN hT q (k := 3) (by decide)
    have w4 := r_word (N := N) (h := h) (R := R) (E := E) hc hl hN hT q (k := 4) (by decide)
    rw [show wdL.getD 3 [] = wBath from rfl] at w3
    rw [show wdL.getD 4 [] = wIll from rfl] at w4
    have ff : ¬ (false = true) := by decide
    unfold pExt
    cases hb : isWd wBath ts with
    | true =>
      rw [hb] at w3
      rw [if_pos rfl]
      cases b with
      | true =>
        rw [if_pos rfl]
        refine ⟨0, _, D, E, ?_, hR.si _, rfl, by rw [oi_si, if_pos rfl], rfl⟩
        obtain ⟨m, rfl⟩ : ∃ k, m = k + 1 := ⟨m - 1, by omega⟩
        rw [gi_1]
        generalize hz : gi _ m = zk
        dsimp only
        unfold f_X3_readExtras_9 f_X3_readExtras_46
        rw [if_neg (of_eq_false n1), ga, gb_s, gis, gg_t, w3, gc_s, if_neg (eBt _ rfl), if_neg (eBt _ rfl), if_neg (eBt _ rfl), wr R D ts hR q]
      | false =>
        rw [if_neg ff]
        have hk0 : (hd ts).1 ≠ 0 := by rw [(isWd_k hb).1]; decide
        obtain ⟨D1, b1, b2⟩ := r_adv (N := N) (h := h) (R := R) (E := E) hc hl hN hT q hk0
        obtain ⟨v, R2, D2, E2, c1, c2, c3⟩ := ih (k + 1) true i (m - 1) R D1 ts.tail (by omega) (by omega) b2 hR
        refine ⟨v, R2, D2, E2, ?_, c2, c3⟩
        obtain ⟨m, rfl⟩ : ∃ k, m = k + 1 := ⟨m - 1, by omega⟩
        rw [gi_1]
        generalize hz : gi _ m = zk
        dsimp only
        rw [show m + 1 - 1 = m by omega, hz] at c1
        unfold f_X3_readExtras_9 f_X3_readExtras_46 f_X3_readExtras_70 f_X3_readExtras_89
        rw [if_neg (of_eq_false n1), ga, gb_s, gis, gg_t, w3, gc_s, if_neg (eBt _ rfl), if_neg (eBt _ rfl), if_pos (eBf _ rfl), gl_s, if_neg (eBt _ rfl), gl_s, ga, gb_s, gis, gg_t, b1, gb_s, gl_s, eo1, eo3, n_add1]
        exact c1
    | false =>
      rw [hb] at w3
      rw [if_neg ff]
      cases hi : isWd wIll ts with
      | false =>
        rw [hi] at w4
        rw [if_neg ff]
        refine ⟨1, R, D, gst E n0 w vt b i, ?_, hR, rfl, q, rfl⟩
        obtain ⟨m, rfl⟩ : ∃ k, m = k + 1 := ⟨m - 1, by omega⟩
        rw [gi_1]
        generalize hz : gi _ m = zk
        dsimp only
        unfold f_X3_readExtras_9
        rw [if_neg (of_eq_false n1), ga, gb_s, gis, gg_t, w3, gc_s, if_pos (eBf _ rfl), ga, gb_s, gis, gg_t, w4, gc_s, if_pos (eBf _ rfl), fin b i R D hR]
      | true =>
        rw [hi] at w4
        rw [if_pos rfl]
        cases i with
        | true =>
          rw [if_pos rfl]
          refine ⟨0, _, D, E, ?_, hR.si _, rfl, by rw [oi_si, if_pos rfl], rfl⟩
          obtain ⟨m, rfl⟩ : ∃ k, m = k + 1 := ⟨m - 1, by omega⟩
          rw [gi_1]
          generalize hz : gi _ m = zk
          dsimp only
          unfold f_X3_readExtras_9 f_X3_readExtras_46
          rw [if_neg (of_eq_false n1), ga, gb_s, gis, gg_t, w3, gc_s, if_pos (eBf _ rfl), ga, gb_s, gis, gg_t, w4, gc_s, if_neg (eBt _ rfl), if_pos (eBf _ rfl), if_neg (eBt _ rfl), wr R D ts hR q]
        | false =>
          rw [if_neg ff]
          have hk0 : (hd ts).1 ≠ 0 := by rw [(isWd_k hi).1]; decide
          obtain ⟨D1, b1, b2⟩ := r_adv (N := N) (h := h) (R := R) (E := E) hc hl hN hT q hk0
          obtain ⟨v, R2, D2, E2, c1, c2, c3⟩ := ih (k + 1) b true (m - 1) R D1 ts.tail (by omega) (by omega) b2 hR
          refine ⟨v, R2, D2, E2, ?_, c2, c3⟩
          obtain ⟨m, rfl⟩ : ∃ k, m = k + 1 := ⟨m - 1, by omega⟩
          rw [gi_1]
          generalize hz : gi _ m = zk
          dsimp only
          rw [show m + 1 - 1 = m by omega, hz] at c1
          unfold f_X3_readExtras_9 f_X3_readExtras_46 f_X3_readExtras_70 f_X3_readExtras_89
          rw [if_neg (of_eq_false n1), ga, gb_s, gis, gg_t, w3, gc_s, if_pos (eBf _ rfl), ga, gb_s, gis, gg_t, w4, gc_s, if_neg (eBt _ rfl), if_pos (eBf _ rfl), if_pos (eBf _ rfl), gl_s, if_pos (eBf _ rfl), gl_s, ga, gb_s, gis, gg_t, b1, gb_s, gl_s, eo2, eo4, n_add1]
          exact c1
theorem c_readGuest (hc : 66 ≤ c) (hl : c + 7 ≤ h.length) (hN : 2000 ≤ N) (hT : TOk T) {R D E : OD} (hR : RR c R) {ts : List Tok} (q : CK T ts D) {s : PS} (hD : CDr s E) (hs : PSk s) (hk : (hd ts).1 ≠ 0) : LOc c h T (f_X3_readGuest N 3) R D E (pGuest s ts) := by
  obtain ⟨a1, a2, a3⟩ := H3_at (h := h) (R := R) (D := D) (E := E) hc hl
  have sl := hs.2.1
  unfold LOc f_X3_readGuest pGuest
  rw [a1.gV (k := 1) rfl rfl hR.2, gb_s, a3.gI (k := 1) rfl rfl, gb_s, hD.2.1]
  by_cases z : s.2.1.length = 10
  · have n1 : Int32.ofNat s.2.1.length = 10 := by rw [z]; rfl
    rw [if_pos n1, if_pos z, a1.is rfl, gg_t, r_wrong hc hl hR q (k := 5) (kI := 5) rfl, gc_s, gzb0, gg_t]
    exact ⟨0, _, D, E, rfl, hR.si _, hD.z, rfl, by rw [oi_si, if_pos rfl]⟩
  have n1 : ¬ Int32.ofNat s.2.1.length = 10 := of_eq_false (neqF (b := 10) z (by omega) (by omega))
  obtain ⟨D1, b1, b2⟩ := r_adv (N := N) (h := h) (R := R) (E := E) hc hl hN hT q hk
  have y1 := H3_at (h := h) (R := R) (D := D1) (E := E) hc hl
  have gk : gfI 10 2 1 (H3 c h R D1 E) = some (Int32.ofNat (kd (hd ts.tail))) := by rw [y1.2.1.gI (k := 2) rfl rfl, b2.2.2.2.1]
  have ga1 : gfR 3 0 3 (H3 c h R D1 E) = some 1 := y1.1.gV (k := 0) rfl rfl hR.1
  have w43 : f_X3_readGuest_43 N 3 (H3 c h R D1 E) = some (0, H3 c h (si R 2 (Int32.ofNat (flt 1 ts.tail))) D1 E) := by
    unfold f_X3_readGuest_43
    rw [y1.1.is rfl, gg_t, r_wrong hc hl hR b2 (k := 1) (kI := 1) rfl, gc_s, gzb0, gg_t]
  rw [if_neg n1, if_neg z, a1.gV (k := 0) rfl rfl hR.1, gb_s, a2.is rfl, gg_t, b1, gb_s, ga1, gb_s, gk, gb_s]
  by_cases hw : ¬ (hd ts.tail).1 = 1
  · have k1 : ¬ Int32.ofNat (kd (hd ts.tail)) = 1 := by rw [kd_wd b2.2.1]; exact hw
    rw [if_neg k1, if_neg (fun y => hw y.1), w43]
    exact ⟨0, _, D1, E, rfl, hR.si _, hD.z, rfl, by rw [oi_si, if_pos rfl]⟩
  have hw := Classical.not_not.mp hw
  have k1 : Int32.ofNat (kd (hd ts.tail)) = 1 := by rw [kd_wd b2.2.1]; exact hw
  rw [if_pos k1, y1.1.is rfl, gg_t, c_isKept hc hl hN hT hR b2 hw, gc_s]
  cases hr : isRes (hd ts.tail).2.2 with
  | true =>
    have nn : ¬ ((hd ts.tail).1 = 1 ∧ true = false) := fun y => by cases y.2
    rw [if_neg (eBt _ rfl), if_neg nn, w43]
    exact ⟨0, _, D1, E, rfl, hR.si _, hD.z, rfl, by rw [oi_si, if_pos rfl]⟩
  | false =>
  have hp := b2.2.1.hd.1.2.1 hw
  have nn : (hd ts.tail).1 = 1 ∧ false = false := ⟨hw, rfl⟩
  rw [if_pos (eBf _ rfl), if_pos nn, ga1, gb_s, y1.2.1.gL (k := 5) rfl rfl, gb_s, b2.2.2.2.2.1 hw, y1.1.gV (k := 1) rfl rfl hR.2, gb_s, y1.2.2.is rfl, gg_t, c_hasName hc hl hN hD hs hp.1 hp.2.2, gc_s]
  cases hn : (s.2.1.map (·.1)).contains (hd ts.tail).2.2 with
  | true =>
    rw [if_neg (eBt _ rfl), if_pos rfl, y1.1.is rfl, gg_t, r_wrong hc hl hR b2 (k := 3) (kI := 3) rfl, gc_s, gzb0, gg_t]
    exact ⟨0, _, D1, E, rfl, hR.si _, hD.z, rfl, by rw [oi_si, if_pos rfl]⟩
  | false =>
  have ff : ¬ (false = true) := by decide
  obtain ⟨D2, d1, d2⟩ := r_adv (N := N) (h := h) (R := R) (E := E) hc hl hN hT b2 (by rw [hw]; decide)
  have y2 := H3_at (h := h) (R := R) (D := D2) (E := E) hc hl
  have ga2 : gfR 3 0 3 (H3 c h R D2 E) = some 1 := y2.1.gV (k := 0) rfl rfl hR.1
  have w2 := r_word (N := N) (h := h) (R := R) (E := E) hc hl hN hT d2 (k := 2) (by decide)
  rw [show wdL.getD 2 [] = wTrunk from rfl] at w2
  rw [if_pos (eBf _ rfl), if_neg ff, ga1, gb_s, y1.2.1.is rfl, gg_t, d1, gb_s, ga2, gb_s, y2.2.1.is rfl, gg_t, w2, gc_s]
  cases ht : isWd wTrunk ts.tail.tail with
  | false =>
    rw [if_pos (eBf _ rfl), if_neg ff, y2.1.is rfl, gg_t, r_wrong hc hl hR d2 (k := 1) (kI := 1) rfl, gc_s, gzb0, gg_t]
    exact ⟨0, _, D2, E, rfl, hR.si _, hD.z, rfl, by rw [oi_si, if_pos rfl]⟩
  | true =>
  obtain ⟨D3, e1, e2⟩ := r_adv (N := N) (h := h) (R := R) (E := E) hc hl hN hT d2 (by rw [(isWd_k ht).1]; decide)
  have y3 := H3_at (h := h) (R := R) (D := D3) (E := E) hc hl
  obtain ⟨v, R4, D4, f1, f2, f3⟩ := r_num (N := N) (h := h) (E := E) hc hl hN hT hR e2 (m := 99) (mI := 99) rfl (by omega)
  rw [if_neg (eBt _ rfl), if_pos rfl, ga2, gb_s, y2.2.1.is rfl, gg_t, e1, gb_s, y3.1.is rfl, gg_t, f1, gc_s]
  have m1 : ∀ n, n < 1000 → ¬ Int32.ofNat n = -1 := by
    intro n hn z
    have := congrArg Int32.toInt z
    rw [i_ok (by omega)] at this
    have t : (-1 : Int32).toInt = -1 := by decide
    rw [t] at this
    omega
  unfold f_X3_readGuest_131 f_X3_readGuest_132
  cases h1 : pNum 99 ts.tail.tail.tail with
  | inl f =>
    rw [h1] at f3
    dsimp only at f3
    obtain ⟨rfl, f4⟩ := f3
    rw [if_pos rfl, gzb0, gg_t]
    exact ⟨0, R4, D4, E, rfl, f2, hD.z, rfl, f4⟩
  | inr x =>
    rw [h1] at f3
    dsimp only at f3
    obtain ⟨rfl, f4, f5⟩ := f3
    have y4 := H3_at (h := h) (R := R4) (D := D4) (E := E) hc hl
    obtain ⟨v, R5, D5, E5, g1, g2, g3⟩ := c_ext (N := N) (h := h) hc hl hN hT (E := E) (n0 := s.2.1.length) (by omega) hD.2.1 (hd ts.tail).2.2 x.1 3 0 false false N R4 D4 x.2 (by omega) (by omega) f5 f2
    have g1' : f_X3_readExtras N 3 (Int64.ofNat (v32 (hd ts.tail).2.2)) (Int32.ofNat x.1) (H3 c h R4 D4 E) = some (v, H3 c h R5 D5 E5) := g1
    rw [if_neg (m1 x.1 (by omega)), y4.1.is rfl, gg_t, g1', gc_s]
    dsimp only
    cases h2 : pExt 3 false false x.2 with
    | inl f =>
      rw [h2] at g3
      dsimp only at g3
      obtain ⟨rfl, g4, rfl⟩ := g3
      rw [if_pos rfl, gzb0, gg_t]
      exact ⟨0, R5, D5, E5, rfl, g2, hD.z, rfl, g4⟩
    | inr y =>
      rw [h2] at g3
      dsimp only at g3
      obtain ⟨rfl, g4, rfl⟩ := g3
      have t10 : ¬ (1 : Int32) = 0 := by decide
      rw [if_neg t10, gzb1, gg_t]
      have cd := hD.gst (by omega) (hd ts.tail).2.2 x.1 y.1.1 y.1.2
      exact ⟨1, R5, D5, _, rfl, g2, cd.z, rfl, g4, cd⟩
end CGuest2

