/-! The component: the porters' plan, its cells -/
theorem fu_comm {α : Type} {f : Nat → α} {a b : Nat} {x y : α} (h : a ≠ b) : fu (fu f a x) b y = fu (fu f b y) a x := by
  funext j
  rw [fu_at, fu_at, fu_at, fu_at]
  by_cases z : j = b
  · rw [if_pos z, if_neg (by omega), if_pos z]
  · rw [if_neg z, if_neg z]
theorem sa_comm {D : OD} {a b : Nat} {f g : Nat → Int32} (h : a ≠ b) : sa (sa D a f) b g = sa (sa D b g) a f := by
  show (D.1, D.2.1, fu (fu D.2.2.1 a f) b g, D.2.2.2) = (D.1, D.2.1, fu (fu D.2.2.1 b g) a f, D.2.2.2)
  rw [fu_comm h]
def HX (p : Nat) (D0 : OD) (h : PH) (x : Int32) (f0 f3 f4 : Nat → Int32) : PH := pt sX5 p (sa (sa (sa (si D0 1 x) 0 f0) 3 f3) 4 f4) h
def XOk (J : List Tri) (p q : Nat) (D0 : OD) (h : PH) : Prop := p + 4 ≤ h.length ∧ ov D0 2 = .ref q ∧ (q + 4 ≤ p ∨ p + 4 ≤ q) ∧ JOk J ∧ ∃ E, At sX4 q E h ∧ oi E 3 = Int32.ofNat J.length ∧ RepTri J E
section HXs
variable {N : Nat} {J : List Tri} {p q : Nat} {D0 : OD} {h : PH} {x : Int32} {f0 f3 f4 : Nat → Int32}
theorem hx_at (k : XOk J p q D0 h) : ∃ E, At sX4 q E (HX p D0 h x f0 f3 f4) ∧ oi E 3 = Int32.ofNat J.length ∧ RepTri J E := by
  obtain ⟨k1, k2, k3, k4, E, e1, e2, e3⟩ := k
  exact ⟨E, e1.fr (P := fun x => p ≤ x ∧ x < p + 4) (Fr.of (fun x q1 q2 => ⟨q1, q2⟩)) (fun x q1 q2 => by simp only [z4] at q2; omega), e2, e3⟩
theorem hx_is (k : XOk J p q D0 h) : gIs 5 p (HX p D0 h x f0 f3 f4) = true := qk5 k.1
theorem hx_j (k : XOk J p q D0 h) : gfR 5 2 p (HX p D0 h x f0 f3 f4) = some q := gfR_pv k.1 rfl rfl k.2.1
theorem hx_d (k : XOk J p q D0 h) : gfI 5 1 p (HX p D0 h x f0 f3 f4) = some x := qg5_1 k.1
theorem hx_g0 (k : XOk J p q D0 h) : gfR 5 0 p (HX p D0 h x f0 f3 f4) = some (pl p 0) := qg5_0 k.1
theorem hx_g3 (k : XOk J p q D0 h) : gfR 5 3 p (HX p D0 h x f0 f3 f4) = some (pl p 1) := qg5_3 k.1
theorem hx_g4 (k : XOk J p q D0 h) : gfR 5 4 p (HX p D0 h x f0 f3 f4) = some (pl p 2) := qg5_4 k.1
theorem hx_a0 (k : XOk J p q D0 h) {i : Int32} (hi : ixok i 7) : arI 0 (pl p 0) i (HX p D0 h x f0 f3 f4) = some (f0 i.toNatClampNeg) := qa5_0 k.1 hi
theorem hx_a3 (k : XOk J p q D0 h) {i : Int32} (hi : ixok i 7) : arI 0 (pl p 1) i (HX p D0 h x f0 f3 f4) = some (f3 i.toNatClampNeg) := qa5_3 k.1 hi
theorem hx_a4 (k : XOk J p q D0 h) {i : Int32} (hi : ixok i 128) : arI 0 (pl p 2) i (HX p D0 h x f0 f3 f4) = some (f4 i.toNatClampNeg) := qa5_4 k.1 hi
theorem hx_sd (k : XOk J p q D0 h) {v : Int32} : pfV 5 1 p (.int v) (HX p D0 h x f0 f3 f4) = some (HX p D0 h v f0 f3 f4) := by
  unfold HX
  rw [qs5_1 k.1]
  have : si (sa (sa (sa (si D0 1 x) 0 f0) 3 f3) 4 f4) 1 v = sa (sa (sa (si (si D0 1 x) 1 v) 0 f0) 3 f3) 4 f4 := rfl
  rw [this, si_si]
theorem hx_e0 (k : XOk J p q D0 h) {i v : Int32} (hi : ixok i 7) : asI 0 (pl p 0) i v (HX p D0 h x f0 f3 f4) = some (HX p D0 h x (upd f0 i.toNatClampNeg v) f3 f4) := by
  unfold HX
  rw [qe5_0 k.1 hi]
  have : oa (sa (sa (sa (si D0 1 x) 0 f0) 3 f3) 4 f4) 0 = f0 := rfl
  rw [this, sa_comm (a := 4) (b := 0) (by omega), sa_comm (a := 3) (b := 0) (by omega), sa_sa]
theorem hx_e3 (k : XOk J p q D0 h) {i v : Int32} (hi : ixok i 7) : asI 0 (pl p 1) i v (HX p D0 h x f0 f3 f4) = some (HX p D0 h x f0 (upd f3 i.toNatClampNeg v) f4) := by
  unfold HX
  rw [qe5_3 k.1 hi]
  have : oa (sa (sa (sa (si D0 1 x) 0 f0) 3 f3) 4 f4) 3 = f3 := rfl
  rw [this, sa_comm (a := 4) (b := 3) (by omega), sa_sa]
theorem hx_e4 (k : XOk J p q D0 h) {i v : Int32} (hi : ixok i 128) : asI 0 (pl p 2) i v (HX p D0 h x f0 f3 f4) = some (HX p D0 h x f0 f3 (upd f4 i.toNatClampNeg v)) := by
  unfold HX
  rw [qe5_4 k.1 hi]
  have : oa (sa (sa (sa (si D0 1 x) 0 f0) 3 f3) 4 f4) 4 = f4 := rfl
  rw [this, sa_sa]
theorem hx_n (k : XOk J p q D0 h) : gfI 4 3 q (HX p D0 h x f0 f3 f4) = some (Int32.ofNat J.length) := by
  obtain ⟨E, e1, e2, e3⟩ := hx_at (x := x) (f0 := f0) (f3 := f3) (f4 := f4) k
  rw [e1.gI (k := 3) rfl rfl, e2]
theorem hx_j0 (k : XOk J p q D0 h) : gfR 4 0 q (HX p D0 h x f0 f3 f4) = some (pl q 0) := by
  obtain ⟨E, e1, e2, e3⟩ := hx_at (x := x) (f0 := f0) (f3 := f3) (f4 := f4) k
  exact e1.gR (k := 0) rfl rfl
theorem hx_j1 (k : XOk J p q D0 h) : gfR 4 1 q (HX p D0 h x f0 f3 f4) = some (pl q 1) := by
  obtain ⟨E, e1, e2, e3⟩ := hx_at (x := x) (f0 := f0) (f3 := f3) (f4 := f4) k
  exact e1.gR (k := 1) rfl rfl
theorem hx_j2 (k : XOk J p q D0 h) : gfR 4 2 q (HX p D0 h x f0 f3 f4) = some (pl q 2) := by
  obtain ⟨E, e1, e2, e3⟩ := hx_at (x := x) (f0 := f0) (f3 := f3) (f4 := f4) k
  exact e1.gR (k := 2) rfl rfl
theorem jt_at {J : List Tri} {j : Nat} (h : j < J.length) : J[j]? = some (jt J j) := by
  unfold jt
  rw [List.getD_eq_getElem?_getD, List.getElem?_eq_getElem h]
  rfl
theorem hx_b0 (k : XOk J p q D0 h) {j : Nat} (hj : j < J.length) : arI 0 (pl q 0) (Int32.ofNat j) (HX p D0 h x f0 f3 f4) = some (Int32.ofNat (jt J j).1) := by
  obtain ⟨E, e1, e2, e3⟩ := hx_at (x := x) (f0 := f0) (f3 := f3) (f4 := f4) k
  have := k.2.2.2.1.1
  rw [e1.aI (j := 0) rfl (ixn (by omega) (by omega)), i_okc (by omega), (e3 j _ (jt_at hj)).1]
theorem hx_b1 (k : XOk J p q D0 h) {j : Nat} (hj : j < J.length) : arI 0 (pl q 1) (Int32.ofNat j) (HX p D0 h x f0 f3 f4) = some (Int32.ofNat (jt J j).2.1) := by
  obtain ⟨E, e1, e2, e3⟩ := hx_at (x := x) (f0 := f0) (f3 := f3) (f4 := f4) k
  have := k.2.2.2.1.1
  rw [e1.aI (j := 1) rfl (ixn (by omega) (by omega)), i_okc (by omega), (e3 j _ (jt_at hj)).2.1]
theorem hx_b2 (k : XOk J p q D0 h) {j : Nat} (hj : j < J.length) : arI 0 (pl q 2) (Int32.ofNat j) (HX p D0 h x f0 f3 f4) = some (Int32.ofNat (jt J j).2.2) := by
  obtain ⟨E, e1, e2, e3⟩ := hx_at (x := x) (f0 := f0) (f3 := f3) (f4 := f4) k
  have := k.2.2.2.1.1
  rw [e1.aI (j := 2) rfl (ixn (by omega) (by omega)), i_okc (by omega), (e3 j _ (jt_at hj)).2.2]
theorem b_sub {s j n : Nat} (hs : s < 2 ^ n) (hn : n ≤ 31) (hb : s.testBit j = true) : Int32.ofNat s &&& (((1 : Int32) <<< (Int32.ofNat j &&& 31)) ^^^ -1) = Int32.ofNat (s - 2 ^ j) := by
  have hj := bit_lt hs hb
  rw [shl1 j (by omega), sub_msk hs hb, ← msk_out _ hn, ← msk_of hs]
theorem c_natBit {s j n : Nat} (hs : s < 2 ^ n) (hj : j < 31) {h : PH} : f_X11_bitOf N (Int32.ofNat s) (Int32.ofNat j) h = some (eB (s.testBit j), h) := by
  rw [c_bitOf, nat_in hs hj]
theorem JOk.jt {J : List Tri} (hJ : JOk J) (j : Nat) : (jt J j).1 ≤ 99 ∧ (jt J j).2.1 ≤ 99 ∧ (jt J j).2.2 ≤ 99 := hJ.at j
theorem eBT1 : eB true = 1 := rfl
theorem p7 (hL : J.length ≤ 7) : 2 ^ J.length ≤ 128 := by
  have : 2 ^ J.length ≤ 2 ^ 7 := Nat.pow_le_pow_right (by omega) hL
  exact this
theorem c_late (k : XOk J p q D0 h) {lim s j : Nat} (hs : s < 2 ^ J.length) (hb : s.testBit j = true) (hl : lim ≤ 2000) (hf : (f4 (s - 2 ^ j)).toInt = latJ J lim (s - 2 ^ j)) : ∃ v, f_X5_latestStart N p (Int32.ofNat j) (Int32.ofNat s) (Int32.ofNat lim) (HX p D0 h x f0 f3 f4) = some (v, HX p D0 h x f0 f3 f4) ∧ v.toInt = lsJ J lim (latJ J lim) s j ∧ -2000 ≤ v.toInt ∧ v.toInt ≤ 2000 := by
  have hJ := k.2.2.2.1
  have hL := hJ.1
  have hj := bit_lt hs hb
  have pw := p7 hL
  obtain ⟨b1, b2, b3⟩ := hJ.jt j
  have q1 := bit_le hb
  have q2 := Nat.two_pow_pos j
  have m1 := latJ_m (J := J) (lim := lim) (s := s - 2 ^ j) (by omega)
  have m2 := latJ_le hJ (lim := lim) (s := s - 2 ^ j) (by omega)
  have e1 : (Int32.ofNat lim - Int32.ofNat (jt J j).2.2).toInt = (lim : Int) - ((jt J j).2.2 : Int) := by
    rw [i_subb (by rw [i_ok (by omega), i_ok (by omega)]; omega) (by rw [i_ok (by omega), i_ok (by omega)]; omega), i_ok (by omega), i_ok (by omega)]
  have e2 : (gmin (f4 (s - 2 ^ j)) (Int32.ofNat lim - Int32.ofNat (jt J j).2.2)).toInt = if (lim : Int) - ((jt J j).2.2 : Int) < latJ J lim (s - 2 ^ j) then (lim : Int) - ((jt J j).2.2 : Int) else latJ J lim (s - 2 ^ j) := by
    unfold gmin
    by_cases z : (lim : Int) - ((jt J j).2.2 : Int) < latJ J lim (s - 2 ^ j)
    · rw [if_pos (by rw [i_lt, e1, hf]; exact z), if_pos z, e1]
    · rw [if_neg (by rw [i_lt, e1, hf]; exact z), if_neg z, hf]
  have e3 : (gmin (f4 (s - 2 ^ j)) (Int32.ofNat lim - Int32.ofNat (jt J j).2.2) - Int32.ofNat (jt J j).2.1).toInt = lsJ J lim (latJ J lim) s j := by
    unfold lsJ
    have r : -2000 ≤ (gmin (f4 (s - 2 ^ j)) (Int32.ofNat lim - Int32.ofNat (jt J j).2.2)).toInt ∧ (gmin (f4 (s - 2 ^ j)) (Int32.ofNat lim - Int32.ofNat (jt J j).2.2)).toInt ≤ 2000 := by
      rw [e2]
      split <;> omega
    rw [i_subb (by rw [i_ok (by omega)]; omega) (by rw [i_ok (by omega)]; omega), i_ok (by omega), e2]
  refine ⟨_, ?_, e3, ?_⟩
  · unfold f_X5_latestStart
    rw [hx_g4 k, gb_s, b_sub hs (by omega) hb, hx_a4 k (ixn (by omega) (by omega)), gb_s, hx_j k, gb_s, hx_j2 k, gb_s, hx_b2 k hj, gb_s, gb_s, hx_j1 k, gb_s, hx_b1 k hj, gb_s, i_okc (by omega)]
  · rw [e3]
    unfold lsJ
    constructor <;> split <;> omega
theorem c_canIn (k : XOk J p q D0 h) {lim s : Nat} (hs : s < 2 ^ J.length) (hl : lim ≤ 2000) (hf : ∀ t, t < s → (f4 t).toInt = latJ J lim t) (K : (Nat × Int32 × Int32 × Int32 × PH) → Option (Int32 × PH)) {al : Int32} : ∀ d j mm late, j + d = J.length → d < mm → Int32.toInt late = lmJ J lim (latJ J lim) s j → ∃ v, gi (fun zk zs => f_X5_canBeDoneBy_32 N K zk zs.1 zs.2.1 zs.2.2.1 zs.2.2.2.1 zs.2.2.2.2.1 zs.2.2.2.2.2.1 zs.2.2.2.2.2.2) mm (p, Int32.ofNat lim, al, Int32.ofNat s, late, Int32.ofNat j, HX p D0 h x f0 f3 f4) = K (p, Int32.ofNat lim, al, Int32.ofNat (s + 1), HX p D0 h x f0 f3 (upd f4 s v)) ∧ v.toInt = lmJ J lim (latJ J lim) s J.length := by
  have hJ := k.2.2.2.1
  have hL := hJ.1
  have pw := p7 hL
  intro d
  induction d with
  | zero =>
    intro j mm late hj hm hv
    have : j = J.length := by omega
    subst this
    obtain ⟨mm, rfl⟩ : ∃ i, mm = i + 1 := ⟨mm - 1, by omega⟩
    refine ⟨late, ?_, hv⟩
    rw [gi_1]
    generalize hz : gi _ mm = zk
    dsimp only
    unfold f_X5_canBeDoneBy_32
    rw [hx_j k, gb_s, hx_n k, gb_s, if_pos (of_eq_true (nleT (Nat.le_refl _) (by omega) (by omega))), hx_g4 k, gb_s, hx_e4 k (ixn (by omega) (by omega)), gb_s, gl_s, n_add1, i_okc (by omega)]
  | succ d ih =>
    intro j mm late hj hm hv
    have hjl : j < J.length := by omega
    obtain ⟨mm, rfl⟩ : ∃ i, mm = i + 1 := ⟨mm - 1, by omega⟩
    have b1 : ¬ Int32.ofNat J.length ≤ Int32.ofNat j := of_eq_false (nleF (by omega) (by omega) (by omega))
    have em : lmJ J lim (latJ J lim) s (j + 1) = if s.testBit j = true ∧ ((jt J j).1 : Int) ≤ lsJ J lim (latJ J lim) s j then (if lmJ J lim (latJ J lim) s j < lsJ J lim (latJ J lim) s j then lsJ J lim (latJ J lim) s j else lmJ J lim (latJ J lim) s j) else lmJ J lim (latJ J lim) s j := rfl
    have a99 := (hJ.jt j).1
    by_cases z : s.testBit j = true
    · have q1 := bit_le z
      have q2 := Nat.two_pow_pos j
      obtain ⟨v, v1, v2, v3, v4⟩ := c_late (N := N) (x := x) (f0 := f0) (f3 := f3) (f4 := f4) k hs z hl (hf _ (by omega))
      by_cases w : ((jt J j).1 : Int) ≤ lsJ J lim (latJ J lim) s j
      · rw [if_pos ⟨z, w⟩] at em
        have eg : (gmax late v).toInt = lmJ J lim (latJ J lim) s (j + 1) := by
          rw [em]
          unfold gmax
          by_cases u : lmJ J lim (latJ J lim) s j < lsJ J lim (latJ J lim) s j
          · rw [if_pos (by rw [i_lt, hv, v2]; exact u), if_pos u, v2]
          · rw [if_neg (by rw [i_lt, hv, v2]; exact u), if_neg u, hv]
        obtain ⟨v', g1, g2⟩ := ih (j + 1) mm (gmax late v) (by omega) (by omega) eg
        refine ⟨v', ?_, g2⟩
        rw [← g1, gi_1]
        generalize hz : gi _ mm = zk
        dsimp only
        unfold f_X5_canBeDoneBy_32 f_X5_canBeDoneBy_91 f_X5_canBeDoneBy_93
        have nb : ¬ v < Int32.ofNat (jt J j).1 := by
          rw [i_lt, v2, i_ok (by omega)]
          omega
        rw [hx_j k, gb_s, hx_n k, gb_s, if_neg b1, c_natBit hs (by omega), gc_s, z, if_pos eBT1, hx_is k, gg_t, v1, gc_s, hx_j k, gb_s, hx_j0 k, gb_s, hx_b0 k hjl, gb_s, if_neg nb, gl_s, n_add1]
      · rw [if_neg (fun u => w u.2)] at em
        obtain ⟨v', g1, g2⟩ := ih (j + 1) mm late (by omega) (by omega) (by rw [em]; exact hv)
        refine ⟨v', ?_, g2⟩
        rw [← g1, gi_1]
        generalize hz : gi _ mm = zk
        dsimp only
        unfold f_X5_canBeDoneBy_32 f_X5_canBeDoneBy_91 f_X5_canBeDoneBy_93
        have nb : v < Int32.ofNat (jt J j).1 := by
          rw [i_lt, v2, i_ok (by omega)]
          omega
        rw [hx_j k, gb_s, hx_n k, gb_s, if_neg b1, c_natBit hs (by omega), gc_s, z, if_pos eBT1, hx_is k, gg_t, v1, gc_s, hx_j k, gb_s, hx_j0 k, gb_s, hx_b0 k hjl, gb_s, if_pos nb, gl_s, n_add1]
    · rw [if_neg (fun u => z u.1)] at em
      obtain ⟨v', g1, g2⟩ := ih (j + 1) mm late (by omega) (by omega) (by rw [em]; exact hv)
      refine ⟨v', ?_, g2⟩
      rw [← g1, gi_1]
      generalize hz : gi _ mm = zk
      dsimp only
      unfold f_X5_canBeDoneBy_32 f_X5_canBeDoneBy_93
      have z' : s.testBit j = false := by rw [← Bool.not_eq_true]; exact z
      have e01 : ¬ eB false = 1 := by decide
      rw [hx_j k, gb_s, hx_n k, gb_s, if_neg b1, c_natBit hs (by omega), gc_s, z', if_neg e01, gl_s, n_add1]
theorem c_can (hN : 2000 ≤ N) (k : XOk J p q D0 h) {lim : Nat} (hl : lim ≤ 2000) : ∃ f4', f_X5_canBeDoneBy N p (Int32.ofNat lim) (HX p D0 h x f0 f3 f4) = some (eB (decide ((pBest J).1 ≤ lim)), HX p D0 h x f0 f3 f4') ∧ ∀ t, t < 2 ^ J.length → (f4' t).toInt = latJ J lim t := by
  have hJ := k.2.2.2.1
  have hL := hJ.1
  have pw := p7 hL
  have pp := Nat.two_pow_pos J.length
  have lp : ∀ d s mm f4, s + d = 2 ^ J.length → d < mm → 1 ≤ s → (∀ t, t < s → Int32.toInt (f4 t) = latJ J lim t) → ∃ f4', gi (fun zk zs => f_X5_canBeDoneBy_21 N zk zs.1 zs.2.1 zs.2.2.1 zs.2.2.2.1 zs.2.2.2.2) mm (p, Int32.ofNat lim, Int32.ofNat (2 ^ J.length - 1), Int32.ofNat s, HX p D0 h x f0 f3 f4) = some (eB (decide ((pBest J).1 ≤ lim)), HX p D0 h x f0 f3 f4') ∧ ∀ t, t < 2 ^ J.length → Int32.toInt (f4' t) = latJ J lim t := by
    intro d
    induction d with
    | zero =>
      intro s mm f4 hs hm h1 hf
      have : s = 2 ^ J.length := by omega
      subst this
      obtain ⟨mm, rfl⟩ : ∃ i, mm = i + 1 := ⟨mm - 1, by omega⟩
      refine ⟨f4, ?_, hf⟩
      rw [gi_1]
      dsimp only
      unfold f_X5_canBeDoneBy_21 f_X5_canBeDoneBy_128
      have ci := can_iff hJ lim
      have fv := hf (2 ^ J.length - 1) (by omega)
      have lm := latJ_m (J := J) (lim := lim) (s := 2 ^ J.length - 1) (by omega)
      have m1 : (-1 : Int32).toInt = -1 := by decide
      rw [if_pos (of_eq_true (nltT (by omega) (by omega) (by omega))), hx_g4 k, gb_s, hx_a4 k (ixn (by omega) (by omega)), gb_s, i_okc (by omega), gzb0, gzb1, gg_t, gg_t]
      by_cases z : (pBest J).1 ≤ lim
      · have nz : ¬ f4 (2 ^ J.length - 1) = -1 := by
          rw [i_eq, fv, m1]
          have := ci.mpr z
          omega
        rw [if_neg nz, decide_eq_true z]
        rfl
      · have nz : f4 (2 ^ J.length - 1) = -1 := by
          rw [i_eq, fv, m1]
          have : ¬ (0 : Int) ≤ latJ J lim (2 ^ J.length - 1) := fun w => z (ci.mp w)
          omega
        rw [if_pos nz, decide_eq_false z]
        rfl
    | succ d ih =>
      intro s mm f4 hs hm h1 hf
      obtain ⟨mm, rfl⟩ : ∃ i, mm = i + 1 := ⟨mm - 1, by omega⟩
      rw [gi_1]
      generalize hz : gi (fun zk zs => f_X5_canBeDoneBy_21 N zk zs.1 zs.2.1 zs.2.2.1 zs.2.2.2.1 zs.2.2.2.2) mm = zk
      dsimp only
      unfold f_X5_canBeDoneBy_21
      obtain ⟨v, v1, v2⟩ := c_canIn (N := N) (x := x) (f0 := f0) (f3 := f3) k (s := s) (by omega) hl hf zk (al := Int32.ofNat (2 ^ J.length - 1)) J.length 0 N (-1) (by omega) (by omega) (show (-1 : Int32).toInt = -1 by decide)
      obtain ⟨f4', g1, g2⟩ := ih (s + 1) mm (upd f4 s v) (by omega) (by omega) (by omega) (fun t ht => by
        rw [upd_at]
        by_cases w : t = s
        · rw [if_pos w, v2, w, latJ_s (by omega) (by omega)]
        · rw [if_neg w]
          exact hf t (by omega))
      rw [hz] at g1
      refine ⟨f4', ?_, g2⟩
      rw [if_neg (of_eq_false (nltF (by omega) (by omega) (by omega))), ← g1, ← v1]
      rfl
  obtain ⟨f4', g1, g2⟩ := lp (2 ^ J.length - 1) 1 N (upd f4 0 (Int32.ofNat lim)) (by omega) (by omega) (by omega) (fun t ht => by
    have : t = 0 := by omega
    rw [this, upd_eq rfl, latJ_0, i_ok (by omega)])
  refine ⟨f4', ?_, g2⟩
  rw [← g1]
  unfold f_X5_canBeDoneBy
  have i0 : ixok (0 : Int32) 128 := ixl (by decide) (by decide)
  have e0 : (0 : Int32).toNatClampNeg = 0 := rfl
  have sl : (1 : Int32) <<< (Int32.ofNat J.length &&& 31) - 1 = Int32.ofNat (2 ^ J.length - 1) := by
    rw [shl1 _ (by omega)]
    exact n_sub (b := 1) (by omega)
  rw [hx_g4 k, gb_s, hx_e4 k i0, gb_s, hx_j k, gb_s, hx_n k, gb_s, gl_s, e0, sl]
  rfl
end HXs

