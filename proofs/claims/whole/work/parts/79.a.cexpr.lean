/-! The component reads: what a rule asks -/
def dI : Option Nat → Int32
  | none => -1
  | some op => cCd (op, 0)
def aId : Option Cd → Int32
  | none => -1
  | some x => cCd x
section CExpr
variable {N : Nat} {h : PH} {c : Nat} {T : List Nat}
theorem c_deed0 (hc : 66 ≤ c) (hl : c + 7 ≤ h.length) (hN : 2000 ≤ N) (hT : TOk T) {R D E : OD} (hR : RR c R) {ts : List Tok} (q : CK T ts D) : f_X3_deedAt N 3 0 (H3 c h R D E) = some (dI (dAnd ts), H3 c h R D E) := by
  obtain ⟨a1, a2, a3⟩ := H3_at (h := h) (R := R) (D := D) (E := E) hc hl
  have w := fun {k : Nat} (hk : k < 14) => r_word (N := N) (h := h) (R := R) (E := E) hc hl hN hT q hk
  have ga : gfR 3 0 3 (H3 c h R D E) = some 1 := a1.gV (k := 0) rfl rfl hR.1
  have gis : gIs 10 1 (H3 c h R D E) = true := a2.is rfl
  unfold f_X3_deedAt dAnd f_X3_deedAt_65
  have e7 : wdL.getD 7 [] = wAnd := rfl
  have e8 : wdL.getD 8 [] = wOr := rfl
  rw [if_pos rfl, ga, gb_s, gis, gg_t, w (k := 7) (by decide), gc_s, e7]
  cases z1 : isWd wAnd ts with
  | true => rw [if_neg (eBt _ rfl)]; rfl
  | false =>
    rw [if_pos (eBf _ rfl), ga, gb_s, gis, gg_t, w (k := 8) (by decide), gc_s, e8]
    cases z2 : isWd wOr ts with
    | true => rw [if_neg (eBt _ rfl)]; rfl
    | false => rw [if_pos (eBf _ rfl)]; rfl
theorem c_deed1 (hc : 66 ≤ c) (hl : c + 7 ≤ h.length) {R D E : OD} (hR : RR c R) {ts : List Tok} (q : CK T ts D) : f_X3_deedAt N 3 1 (H3 c h R D E) = some (dI (dCmp ts), H3 c h R D E) := by
  obtain ⟨a1, a2, a3⟩ := H3_at (h := h) (R := R) (D := D) (E := E) hc hl
  have ga : gfR 3 0 3 (H3 c h R D E) = some 1 := a1.gV (k := 0) rfl rfl hR.1
  have gk : gfI 10 2 1 (H3 c h R D E) = some (Int32.ofNat (kd (hd ts))) := by rw [a2.gI (k := 2) rfl rfl, q.2.2.2.1]
  have k1 := kd_sg q.2.1 (s := 60) (by omega) (by omega)
  have k2 := kd_sg q.2.1 (s := 61) (by omega) (by omega)
  have t1 : (60 : Int32) = Int32.ofNat 60 := rfl
  have t2 : (61 : Int32) = Int32.ofNat 61 := rfl
  have n0 : ¬ (1 : Int32) = 0 := by decide
  unfold f_X3_deedAt dCmp f_X3_deedAt_103
  rw [if_neg n0, if_pos rfl, ga, gb_s, gk, gb_s, gb_s, gk, gb_s, t1, t2]
  simp only [k1, k2]
  cases isSg 60 ts with
  | true => rfl
  | false =>
    cases isSg 61 ts with
    | true => rfl
    | false => rfl
theorem c_deed2 (hc : 66 ≤ c) (hl : c + 7 ≤ h.length) {R D E : OD} (hR : RR c R) {ts : List Tok} (q : CK T ts D) : f_X3_deedAt N 3 2 (H3 c h R D E) = some (dI (dSum ts), H3 c h R D E) := by
  obtain ⟨a1, a2, a3⟩ := H3_at (h := h) (R := R) (D := D) (E := E) hc hl
  have ga : gfR 3 0 3 (H3 c h R D E) = some 1 := a1.gV (k := 0) rfl rfl hR.1
  have gk : gfI 10 2 1 (H3 c h R D E) = some (Int32.ofNat (kd (hd ts))) := by rw [a2.gI (k := 2) rfl rfl, q.2.2.2.1]
  have k1 := kd_sg q.2.1 (s := 43) (by omega) (by omega)
  have k2 := kd_sg q.2.1 (s := 45) (by omega) (by omega)
  have t1 : (43 : Int32) = Int32.ofNat 43 := rfl
  have t2 : (45 : Int32) = Int32.ofNat 45 := rfl
  have n0 : ¬ (2 : Int32) = 0 := by decide
  have n1 : ¬ (2 : Int32) = 1 := by decide
  unfold f_X3_deedAt dSum f_X3_deedAt_141
  rw [if_neg n0, if_neg n1, if_pos rfl, ga, gb_s, gk, gb_s, gb_s, gk, gb_s, t1, t2]
  simp only [k1, k2]
  cases isSg 43 ts with
  | true => rfl
  | false =>
    cases isSg 45 ts with
    | true => rfl
    | false => rfl
theorem c_deed3 (hc : 66 ≤ c) (hl : c + 7 ≤ h.length) {R D E : OD} (hR : RR c R) {ts : List Tok} (q : CK T ts D) : f_X3_deedAt N 3 3 (H3 c h R D E) = some (dI (dMul ts), H3 c h R D E) := by
  obtain ⟨a1, a2, a3⟩ := H3_at (h := h) (R := R) (D := D) (E := E) hc hl
  have ga : gfR 3 0 3 (H3 c h R D E) = some 1 := a1.gV (k := 0) rfl rfl hR.1
  have gk : gfI 10 2 1 (H3 c h R D E) = some (Int32.ofNat (kd (hd ts))) := by rw [a2.gI (k := 2) rfl rfl, q.2.2.2.1]
  have k1 := kd_sg q.2.1 (s := 42) (by omega) (by omega)
  have t1 : (42 : Int32) = Int32.ofNat 42 := rfl
  have n0 : ¬ (3 : Int32) = 0 := by decide
  have n1 : ¬ (3 : Int32) = 1 := by decide
  have n2 : ¬ (3 : Int32) = 2 := by decide
  unfold f_X3_deedAt dMul f_X3_deedAt_161
  rw [if_neg n0, if_neg n1, if_neg n2, ga, gb_s, gk, gb_s, t1]
  simp only [k1]
  cases isSg 42 ts with
  | true => rfl
  | false => rfl
theorem c_fact (hc : 66 ≤ c) (hl : c + 7 ≤ h.length) (hN : 2000 ≤ N) (hT : TOk T) {R D E : OD} (hR : RR c R) {ts : List Tok} (q : CK T ts D) : f_X3_factHere N 3 (H3 c h R D E) = some (aId ((fctS ts).map (fun k => (2, k))), H3 c h R D E) := by
  obtain ⟨a1, a2, a3⟩ := H3_at (h := h) (R := R) (D := D) (E := E) hc hl
  have w := fun {k : Nat} (hk : k < 14) => r_word (N := N) (h := h) (R := R) (E := E) hc hl hN hT q hk
  have ga : gfR 3 0 3 (H3 c h R D E) = some 1 := a1.gV (k := 0) rfl rfl hR.1
  have gis : gIs 10 1 (H3 c h R D E) = true := a2.is rfl
  have w2 := w (k := 2) (by decide)
  have w3 := w (k := 3) (by decide)
  have w4 := w (k := 4) (by decide)
  have w9 := w (k := 9) (by decide)
  have w10 := w (k := 10) (by decide)
  have w11 := w (k := 11) (by decide)
  have w12 := w (k := 12) (by decide)
  have w13 := w (k := 13) (by decide)
  rw [show wdL.getD 2 [] = wTrunk from rfl] at w2
  rw [show wdL.getD 3 [] = wBath from rfl] at w3
  rw [show wdL.getD 4 [] = wIll from rfl] at w4
  rw [show wdL.getD 9 [] = wHere from rfl] at w9
  rw [show wdL.getD 10 [] = wGap from rfl] at w10
  rw [show wdL.getD 11 [] = wFloors from rfl] at w11
  rw [show wdL.getD 12 [] = wStove from rfl] at w12
  rw [show wdL.getD 13 [] = wMoved from rfl] at w13
  unfold f_X3_factHere fctS f_X3_factHere_131
  rw [ga, gb_s, gis, gg_t, w2, gc_s]
  cases isWd wTrunk ts with
  | true => rw [if_neg (eBt _ rfl)]; rfl
  | false =>
  rw [if_pos (eBf _ rfl), ga, gb_s, gis, gg_t, w3, gc_s]
  cases isWd wBath ts with
  | true => rw [if_neg (eBt _ rfl)]; rfl
  | false =>
  rw [if_pos (eBf _ rfl), ga, gb_s, gis, gg_t, w4, gc_s]
  cases isWd wIll ts with
  | true => rw [if_neg (eBt _ rfl)]; rfl
  | false =>
  rw [if_pos (eBf _ rfl), ga, gb_s, gis, gg_t, w9, gc_s]
  cases isWd wHere ts with
  | true => rw [if_neg (eBt _ rfl)]; rfl
  | false =>
  rw [if_pos (eBf _ rfl), ga, gb_s, gis, gg_t, w10, gc_s]
  cases isWd wGap ts with
  | true => rw [if_neg (eBt _ rfl)]; rfl
  | false =>
  rw [if_pos (eBf _ rfl), ga, gb_s, gis, gg_t, w11, gc_s]
  cases isWd wFloors ts with
  | true => rw [if_neg (eBt _ rfl)]; rfl
  | false =>
  rw [if_pos (eBf _ rfl), ga, gb_s, gis, gg_t, w12, gc_s]
  cases isWd wStove ts with
  | true => rw [if_neg (eBt _ rfl)]; rfl
  | false =>
  rw [if_pos (eBf _ rfl), ga, gb_s, gis, gg_t, w13, gc_s]
  cases isWd wMoved ts with
  | true => rw [if_neg (eBt _ rfl)]; rfl
  | false => rw [if_pos (eBf _ rfl)]; rfl
end CExpr
/-- what a reading of a part of a rule does -/
def CCp (c : Nat) (h : PH) (T : List Nat) (F : PH → Option (Int32 × PH)) (P : List Tok → PR) : Prop := ∀ ts R D E cs, CK T ts D → RR c R → CCo cs E → cs.length + ts.length ≤ 1001 → ∃ v R' D' E', F (H3 c h R D E) = some (v, H3 c h R' D' E') ∧ RR c R' ∧ Keep [9, 11] E E' ∧ match P ts with
  | .inl f => v = 0 ∧ oi R' 2 = Int32.ofNat f
  | .inr x => v = 1 ∧ CK T x.2 D' ∧ CCo (cs ++ x.1) E'
section CExpr2
variable {N : Nat} {h : PH} {c : Nat} {T : List Nat}
theorem TV.pos {ts : List Tok} (hv : TV ts) : 1 ≤ ts.length := by
  obtain ⟨b, e, rfl, _⟩ := hv
  rw [List.length_append]
  show 1 ≤ _ + 1
  omega
theorem c_level (hc : 66 ≤ c) (hl : c + 7 ≤ h.length) (hN : 2000 ≤ N) (hT : TOk T) {FL : Nat → Int32 → Int32 → PH → Option (Int32 × PH)} {FP : Nat → Int32 → PH → Option (Int32 × PH)} {lv w : Int32} {sub : List Tok → PR} {deed : List Tok → Option Nat} {g : Nat} (hg : Good g sub) (hF : CCp c h T (FL 3 (lv + 1) w) sub) (hdd : ∀ R D E ts, RR c R → CK T ts D → f_X3_deedAt N 3 lv (H3 c h R D E) = some (dI (deed ts), H3 c h R D E)) (hk : ∀ ts op, deed ts = some op → (hd ts).1 ≠ 0 ∧ 4 ≤ op ∧ op ≤ 10) {most : Nat} (hm : most ≤ 1000) (hlv : lv < 4) (hmo : (if lv = 1 then (1 : Int32) else 1000) = Int32.ofNat most) : CCp c h T (b_X3_readLevel N FL FP 3 lv w) (pJoin sub deed most) := by
  have lp : ∀ n i m ts R D E cs0 cs, i + n = most → n < m → CK T ts D → RR c R → CCo (cs0 ++ cs) E → cs0.length + cs.length + ts.length ≤ 1001 → ∃ v R' D' E', gi (fun zk zs => f_X3_readLevel_40 N FL FP zk zs.1 zs.2.1 zs.2.2.1 zs.2.2.2.1 zs.2.2.2.2.1 zs.2.2.2.2.2) m (3, lv, w, Int32.ofNat most, Int32.ofNat i, H3 c h R D E) = some (v, H3 c h R' D' E') ∧ RR c R' ∧ Keep [9, 11] E E' ∧ match pLoop sub deed n cs ts with
      | .inl f => v = 0 ∧ oi R' 2 = Int32.ofNat f
      | .inr x => v = 1 ∧ CK T x.2 D' ∧ CCo (cs0 ++ x.1) E' := by
    intro n
    induction n with
    | zero =>
      intro i m ts R D E cs0 cs hi hm2 q hR hC hle
      refine ⟨1, R, D, E, ?_, hR, Keep.rf, rfl, q, hC⟩
      obtain ⟨m, rfl⟩ : ∃ k, m = k + 1 := ⟨m - 1, by omega⟩
      rw [gi_1]
      generalize hz : gi _ m = zk
      dsimp only
      unfold f_X3_readLevel_40
      have n1 : (Int32.ofNat most ≤ Int32.ofNat i) = True := nleT (by omega) (by omega) (by omega)
      rw [if_pos (of_eq_true n1), gzb1, gg_t]
    | succ n ih =>
      intro i m ts R D E cs0 cs hi hm2 q hR hC hle
      obtain ⟨a1, a2, a3⟩ := H3_at (h := h) (R := R) (D := D) (E := E) hc hl
      have n1 : (Int32.ofNat most ≤ Int32.ofNat i) = False := nleF (by omega) (by omega) (by omega)
      have d1 := hdd R D E ts hR q
      unfold pLoop
      cases hq : deed ts with
      | none =>
        rw [hq] at d1
        have e1 : dI none = -1 := rfl
        refine ⟨1, R, D, E, ?_, hR, Keep.rf, rfl, q, hC⟩
        obtain ⟨m, rfl⟩ : ∃ k, m = k + 1 := ⟨m - 1, by omega⟩
        rw [gi_1]
        generalize hz : gi _ m = zk
        dsimp only
        unfold f_X3_readLevel_40
        rw [if_neg (of_eq_false n1), a1.is rfl, gg_t, d1, gc_s, if_pos e1, gzb1, gg_t]
      | some op =>
        rw [hq] at d1
        obtain ⟨k1, k2, k3⟩ := hk ts op hq
        have e1 : ¬ dI (some op) = -1 := by
          have : ∀ op, op < 11 → 4 ≤ op → ¬ cCd (op, 0) = -1 := by decide
          exact this op (by omega) k2
        obtain ⟨D1, b1, b2⟩ := r_adv (N := N) (h := h) (R := R) (E := E) hc hl hN hT q k1
        have l1 := (Suf.tl q.2.1 k1).len
        obtain ⟨v, R2, D2, E2, c1, c2, c3, c4⟩ := hF ts.tail R D1 E (cs0 ++ cs) b2 hR hC (by rw [List.length_append]; omega)
        have a1' := (H3_at (h := h) (R := R) (D := D1) (E := E) hc hl).1
        have a2' := H3_at (h := h) (R := R2) (D := D2) (E := E2) hc hl
        cases hs : sub ts.tail with
        | inl f =>
          rw [hs] at c4
          dsimp only at c4
          obtain ⟨rfl, c5⟩ := c4
          refine ⟨0, R2, D2, E2, ?_, c2, c3, rfl, c5⟩
          obtain ⟨m, rfl⟩ : ∃ k, m = k + 1 := ⟨m - 1, by omega⟩
          rw [gi_1]
          generalize hz : gi _ m = zk
          dsimp only
          unfold f_X3_readLevel_40
          rw [if_neg (of_eq_false n1), a1.is rfl, gg_t, d1, gc_s, if_neg e1, a1.gV (k := 0) rfl rfl hR.1, gb_s, a2.is rfl, gg_t, b1, gb_s, a1'.is rfl, gg_t, c1, gc_s, if_pos rfl, gzb0, gg_t]
        | inr x =>
          rw [hs] at c4
          dsimp only at c4
          obtain ⟨rfl, c5, c6⟩ := c4
          obtain ⟨g1, g2, _⟩ := hg ts.tail b2.2.1 x.1 x.2 hs
          have p1 := g1.tv.pos
          obtain ⟨E3, e3, e4, e5⟩ := r_code (N := N) (h := h) (R := R2) (D := D2) hc hl c6 (by simp only [List.length_append]; omega) (op, 0)
          have ee : cs0 ++ cs ++ x.1 ++ [(op, 0)] = cs0 ++ (cs ++ x.1 ++ [(op, 0)]) := by simp only [List.append_assoc]
          rw [ee] at e5
          obtain ⟨v, R4, D4, E4, f1, f2, f3, f4⟩ := ih (i + 1) (m - 1) x.2 R2 D2 E3 cs0 (cs ++ x.1 ++ [(op, 0)]) (by omega) (by omega) c5 c2 e5 (by simp only [List.length_append, List.length_singleton]; omega)
          refine ⟨v, R4, D4, E4, ?_, f2, (c3.tr e4).tr f3, f4⟩
          obtain ⟨m, rfl⟩ : ∃ k, m = k + 1 := ⟨m - 1, by omega⟩
          rw [gi_1]
          generalize hz : gi _ m = zk
          dsimp only
          rw [show m + 1 - 1 = m by omega, hz] at f1
          have t1 : ¬ (1 : Int32) = 0 := by decide
          have e6 : dI (some op) = cCd (op, 0) := rfl
          unfold f_X3_readLevel_40
          rw [if_neg (of_eq_false n1), a1.is rfl, gg_t, d1, gc_s, if_neg e1, a1.gV (k := 0) rfl rfl hR.1, gb_s, a2.is rfl, gg_t, b1, gb_s, a1'.is rfl, gg_t, c1, gc_s, if_neg t1, a2'.1.gV (k := 1) rfl rfl c2.2, gb_s, a2'.2.2.is rfl, gg_t, e6, e3, gb_s, gl_s, n_add1]
          exact f1
  intro ts R D E cs q hR hC hle
  obtain ⟨a1, a2, a3⟩ := H3_at (h := h) (R := R) (D := D) (E := E) hc hl
  obtain ⟨v, R2, D2, E2, c1, c2, c3, c4⟩ := hF ts R D E cs q hR hC hle
  unfold pJoin
  cases hs : sub ts with
  | inl f =>
    rw [hs] at c4
    dsimp only at c4
    obtain ⟨rfl, c5⟩ := c4
    refine ⟨0, R2, D2, E2, ?_, c2, c3, rfl, c5⟩
    unfold b_X3_readLevel
    rw [if_pos hlv, a1.is rfl, gg_t, c1, gc_s, if_pos rfl, gzb0, gg_t]
  | inr x =>
    rw [hs] at c4
    dsimp only at c4
    obtain ⟨rfl, c5, c6⟩ := c4
    obtain ⟨g1, g2, _⟩ := hg ts q.2.1 x.1 x.2 hs
    obtain ⟨v, R4, D4, E4, f1, f2, f3, f4⟩ := lp most 0 N x.2 R2 D2 E2 cs x.1 (by omega) (by omega) c5 c2 c6 (by omega)
    refine ⟨v, R4, D4, E4, ?_, f2, c3.tr f3, f4⟩
    have t1 : ¬ (1 : Int32) = 0 := by decide
    unfold b_X3_readLevel f_X3_readLevel_36
    rw [if_pos hlv, a1.is rfl, gg_t, c1, gc_s, if_neg t1]
    rw [← f1, ← hmo]
    split <;> rfl
end CExpr2

