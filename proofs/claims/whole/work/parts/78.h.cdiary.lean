/-! The component's diary: where, who, letter -/
theorem l_shr {n k : Nat} {s : Int64} (hn : n < 9223372036854775808) (hs : (s.toBitVec.smod 64).toNat = k) : Int64.ofNat n >>> s = Int64.ofNat (n / 2 ^ k) := by
  apply Int64.toBitVec_inj.mp
  rw [Int64.toBitVec_shiftRight]
  unfold BitVec.sshiftRight'
  rw [hs]
  show (BitVec.ofNat 64 n).sshiftRight k = BitVec.ofNat 64 (n / 2 ^ k)
  have hm : (BitVec.ofNat 64 n).msb = false := by
    rw [BitVec.msb_eq_decide, BitVec.toNat_ofNat, Nat.mod_eq_of_lt (by omega)]
    exact decide_eq_false (by omega)
  rw [BitVec.sshiftRight_eq_of_msb_false hm]
  apply BitVec.eq_of_toNat_eq
  rw [BitVec.toNat_ushiftRight, BitVec.toNat_ofNat, BitVec.toNat_ofNat, Nat.mod_eq_of_lt (by omega), Nat.shiftRight_eq_div_pow]
  have : n / 2 ^ k ≤ n := Nat.div_le_self _ _
  rw [Nat.mod_eq_of_lt (by omega)]
theorem and15 (a : Nat) : Int32.ofNat a &&& 15 = Int32.ofNat (a % 16) := by
  have : (15 : Int32) = Int32.ofNat 15 := rfl
  rw [this, b_and, show (15 : Nat) = 2 ^ 4 - 1 from rfl, Nat.and_two_pow_sub_one_eq_mod]
theorem andFF (a : Nat) : Int32.ofNat a &&& 255 = Int32.ofNat (a % 256) := by
  have : (255 : Int32) = Int32.ofNat 255 := rfl
  rw [this, b_and, show (255 : Nat) = 2 ^ 8 - 1 from rfl, Nat.and_two_pow_sub_one_eq_mod]
theorem sh4 : ((Int32.toInt64 4 &&& 63).toBitVec.smod 64).toNat = 4 := by decide
theorem sh8 : ((Int32.toInt64 8 &&& 63).toBitVec.smod 64).toNat = 8 := by decide
theorem sh12 : ((Int32.toInt64 12 &&& 63).toBitVec.smod 64).toNat = 12 := by decide
theorem sh20 : ((Int32.toInt64 20 &&& 63).toBitVec.smod 64).toNat = 20 := by decide
theorem pI_m (a : Option Nat) : Int32.ofNat (pI a) + (-1) = eO a := by
  cases a with
  | none => decide
  | some r => exact n_subm (a := r + 1) (by omega)
/-- a going that can be written in one number -/
def GoN (x : Go) : Prop := x.1 < 10 ∧ pI x.2.1 ≤ 10 ∧ pI x.2.2.1 ≤ 10 ∧ x.2.2.2.1 < x.2.2.2.2 ∧ x.2.2.2.2 ≤ x.2.2.2.1 + 28 ∧ x.2.2.2.2 ≤ 1000000
theorem enN_ok {x : Go} (h : GoN x) : enN x < 9223372036854775808 ∧ enN x / 2 ^ 8 % 16 = x.1 ∧ enN x / 2 ^ 4 % 16 = pI x.2.1 ∧ enN x % 16 = pI x.2.2.1 ∧ enN x / 2 ^ 20 = x.2.2.2.1 ∧ enN x / 2 ^ 12 % 256 = x.2.2.2.2 - x.2.2.2.1 := by
  obtain ⟨h1, h2, h3, h4, h5, h6⟩ := h
  unfold enN
  generalize pI x.2.1 = f at *
  generalize pI x.2.2.1 = t at *
  generalize x.1 = g at *
  generalize x.2.2.2.1 = s at *
  generalize x.2.2.2.2 = e at *
  obtain ⟨d, rfl⟩ : ∃ d, e = s + d := ⟨e - s, by omega⟩
  rw [Nat.add_sub_cancel_left]
  omega
section CDiary
variable {N : Nat} {h : PH} {H : HA} {G : OD} {d : Nat}
theorem c_dAt (g : At sX0 d G h) (r : RepD H G) {k : Nat} {x : Go} (hx : (hL H)[k]? = some x) (hk : k < 1000) (hn : GoN x) : f_X0_guestAt N d (Int32.ofNat k) h = some (Int32.ofNat x.1, h) ∧ f_X0_fromAt N d (Int32.ofNat k) h = some (eO x.2.1, h) ∧ f_X0_toAt N d (Int32.ofNat k) h = some (eO x.2.2.1, h) ∧ f_X0_beginAt N d (Int32.ofNat k) h = some (Int32.ofNat x.2.2.2.1, h) ∧ f_X0_endAt N d (Int32.ofNat k) h = some (Int32.ofNat x.2.2.2.2, h) := by
  obtain ⟨e1, e2, e3, e4, e5, e6⟩ := enN_ok hn
  have v := r.2.2 k x hx
  have ra : arL 1 (pl d 0) (Int32.ofNat k) h = some (Int64.ofNat (enN x)) := by
    rw [g.aL (j := 0) rfl (ixn (by omega) (by omega)), i_okc (by omega), v]
  have rr : gfR 0 0 d h = some (pl d 0) := g.gR rfl rfl
  have bg : f_X0_beginAt N d (Int32.ofNat k) h = some (Int32.ofNat x.2.2.2.1, h) := by
    unfold f_X0_beginAt
    rw [rr, gb_s, ra, gb_s, l_shr e1 sh20, l2i, e5]
  refine ⟨?_, ?_, ?_, bg, ?_⟩
  · unfold f_X0_guestAt
    rw [rr, gb_s, ra, gb_s, l_shr e1 sh8, l2i, and15, e2]
  · unfold f_X0_fromAt
    rw [rr, gb_s, ra, gb_s, l_shr e1 sh4, l2i, and15, e3, pI_m]
  · unfold f_X0_toAt
    rw [rr, gb_s, ra, gb_s, l2i, and15, e4, pI_m]
  · unfold f_X0_endAt
    rw [g.is rfl, gg_t, bg, gc_s, rr, gb_s, ra, gb_s, l_shr e1 sh12, l2i, andFF, e6, n_add]
    have := hn.2.2.2.1
    rw [show x.2.2.2.1 + (x.2.2.2.2 - x.2.2.2.1) = x.2.2.2.2 by omega]
theorem tk_s {L : List Go} {k : Nat} {x : Go} (hx : L[k]? = some x) : L.take (k + 1) = L.take k ++ [x] := by
  rw [List.take_add_one, hx]
  rfl
theorem c_placeOf (hN : 2000 ≤ N) (g : At sX0 d G h) (r : RepD H G) (hl : (hL H).length ≤ 1000) (hn : ∀ (k : Nat) (x : Go), (hL H)[k]? = some x → GoN x) {gu m : Nat} (hg : gu < 10) (hm : m < 2000000) : f_X0_placeOf N d (Int32.ofNat gu) (Int32.ofNat m) h = some (plS (hL H) gu m, h) := by
  have lp : ∀ k mm, k ≤ (hL H).length → k < mm → gi (fun zk zs => f_X0_placeOf_7 N zk zs.1 zs.2.1 zs.2.2.1 zs.2.2.2.1 zs.2.2.2.2) mm (d, Int32.ofNat gu, Int32.ofNat m, Int32.ofNat k + (-1), h) = some (plS ((hL H).take k) gu m, h) := by
    intro k
    induction k with
    | zero =>
      intro mm _ hm2
      obtain ⟨mm, rfl⟩ : ∃ j, mm = j + 1 := ⟨mm - 1, by omega⟩
      rw [gi_1]
      dsimp only
      unfold f_X0_placeOf_7
      rw [if_pos (by decide)]
      rfl
    | succ k ih =>
      intro mm hk hm2
      obtain ⟨x, hx⟩ : ∃ x, (hL H)[k]? = some x := ⟨_, List.getElem?_eq_getElem (by omega)⟩
      have xn := hn k x hx
      obtain ⟨c1, c2, c3, c4, c5⟩ := c_dAt (N := N) g r hx (by omega) xn
      obtain ⟨mm, rfl⟩ : ∃ j, mm = j + 1 := ⟨mm - 1, by omega⟩
      have ih2 := ih mm (by omega) (by omega)
      rw [gi_1]
      generalize hz : gi _ mm = zk at ih2
      dsimp only
      have pe : plS ((hL H).take (k + 1)) gu m = plF gu m (plS ((hL H).take k) gu m) x := by
        unfold plS
        rw [tk_s hx, List.foldl_append]
        rfl
      unfold f_X0_placeOf_7 f_X0_placeOf_48 f_X0_placeOf_49
      have xb := xn.2.2.2
      rw [n_subm (by omega), Nat.add_sub_cancel, if_neg (by rw [n_lt0 (by omega)]; exact id), g.is rfl, gg_t, c1, gc_s, pe]
      unfold plF
      by_cases w1 : x.1 = gu
      · rw [if_pos (by rw [w1]), g.is rfl, gg_t, c4, gc_s]
        by_cases w2 : x.2.2.2.1 ≤ m
        · have cc : x.1 = gu ∧ x.2.2.2.1 ≤ m := ⟨w1, w2⟩
          rw [if_neg (of_eq_false (nltF (by omega) (by omega) (by omega))), g.is rfl, gg_t, c5, gc_s, if_pos cc]
          by_cases w3 : m < x.2.2.2.2
          · rw [if_pos (of_eq_true (nltT w3 (by omega) (by omega))), if_pos w3]
          · rw [if_neg (of_eq_false (nltF w3 (by omega) (by omega))), if_neg w3, g.is rfl, gg_t, c3, gc_s]
        · have cc : ¬ (x.1 = gu ∧ x.2.2.2.1 ≤ m) := fun z => w2 z.2
          rw [if_pos (of_eq_true (nltT (by omega) (by omega) (by omega))), if_neg cc, gl_s]
          exact ih2
      · have cc : ¬ (x.1 = gu ∧ x.2.2.2.1 ≤ m) := fun z => w1 z.1
        have := xn.1
        rw [if_neg (of_eq_false (neqF w1 (by omega) (by omega))), if_neg cc, gl_s]
        exact ih2
  unfold f_X0_placeOf
  rw [g.gI (k := 1) rfl rfl, gb_s, gl_s, r.1]
  have := lp (hL H).length N (Nat.le_refl _) (by omega)
  rw [List.take_length] at this
  have e : Int32.ofNat (hL H).length - 1 = Int32.ofNat (hL H).length + (-1) := by
    rw [i_eq, i_sub, i_add]
    have e1 : (1 : Int32).toInt = 1 := by decide
    have e2 : (-1 : Int32).toInt = -1 := by decide
    rw [e1, e2]
    rfl
  rw [e]
  exact this
/-- who is in a room, by the last going that touches it -/
def occF (r m : Nat) (o : Option Nat) (x : Go) : Option Nat := if x.2.2.1 = some r ∧ x.2.2.2.2 ≤ m then some x.1 else if x.2.1 = some r ∧ x.2.2.2.1 ≤ m then none else o
theorem eO_eq {a : Option Nat} {r : Nat} (ha : ∀ s, a = some s → s < 1000) (hr : r < 1000) : (eO a = Int32.ofNat r) = (a = some r) := by
  cases a with
  | none =>
    rw [eO_n, n_m1l (by omega)]
    exact propext ⟨False.elim, fun z => by cases z⟩
  | some s =>
    have := ha s rfl
    rw [eO_s, n_eq (by omega) (by omega)]
    exact propext ⟨fun z => by rw [z], fun z => by cases z; rfl⟩
theorem pI_s {a : Option Nat} (h : pI a ≤ 10) : ∀ s, a = some s → s < 1000 := by
  intro s hs
  rw [hs] at h
  have : s + 1 ≤ 10 := h
  omega
theorem c_occupantOf (hN : 2000 ≤ N) (g : At sX0 d G h) (r : RepD H G) (hl : (hL H).length ≤ 1000) (hn : ∀ (k : Nat) (x : Go), (hL H)[k]? = some x → GoN x) {ro m : Nat} (hr : ro < 10) (hm : m < 2000000) : f_X0_occupantOf N d (Int32.ofNat ro) (Int32.ofNat m) h = some (eO ((hL H).foldl (occF ro m) none), h) := by
  have lp : ∀ k mm, k ≤ (hL H).length → k < mm → gi (fun zk zs => f_X0_occupantOf_7 N zk zs.1 zs.2.1 zs.2.2.1 zs.2.2.2.1 zs.2.2.2.2) mm (d, Int32.ofNat ro, Int32.ofNat m, Int32.ofNat k + (-1), h) = some (eO (((hL H).take k).foldl (occF ro m) none), h) := by
    intro k
    induction k with
    | zero =>
      intro mm _ hm2
      obtain ⟨mm, rfl⟩ : ∃ j, mm = j + 1 := ⟨mm - 1, by omega⟩
      rw [gi_1]
      dsimp only
      unfold f_X0_occupantOf_7
      rw [if_pos (by decide)]
      rfl
    | succ k ih =>
      intro mm hk hm2
      obtain ⟨x, hx⟩ : ∃ x, (hL H)[k]? = some x := ⟨_, List.getElem?_eq_getElem (by omega)⟩
      have xn := hn k x hx
      obtain ⟨c1, c2, c3, c4, c5⟩ := c_dAt (N := N) g r hx (by omega) xn
      obtain ⟨mm, rfl⟩ : ∃ j, mm = j + 1 := ⟨mm - 1, by omega⟩
      have ih2 := ih mm (by omega) (by omega)
      rw [gi_1]
      generalize hz : gi _ mm = zk at ih2
      dsimp only
      have pe : ((hL H).take (k + 1)).foldl (occF ro m) none = occF ro m (((hL H).take k).foldl (occF ro m) none) x := by
        rw [tk_s hx, List.foldl_append]
        rfl
      have xb := xn.2.2.2
      have f35 : f_X0_occupantOf_35 N zk d (Int32.ofNat ro) (Int32.ofNat m) (Int32.ofNat k) h = some (eO (if x.2.1 = some ro ∧ x.2.2.2.1 ≤ m then none else ((hL H).take k).foldl (occF ro m) none), h) := by
        unfold f_X0_occupantOf_35 f_X0_occupantOf_55
        rw [g.is rfl, gg_t, c2, gc_s]
        by_cases w1 : x.2.1 = some ro
        · rw [if_pos (by rw [w1]; rfl), g.is rfl, gg_t, c4, gc_s]
          by_cases w2 : x.2.2.2.1 ≤ m
          · rw [if_neg (of_eq_false (nltF (by omega) (by omega) (by omega))), if_pos ⟨w1, w2⟩]
            rfl
          · have cc : ¬ (x.2.1 = some ro ∧ x.2.2.2.1 ≤ m) := fun z => w2 z.2
            rw [if_pos (of_eq_true (nltT (by omega) (by omega) (by omega))), if_neg cc, gl_s]
            exact ih2
        · have cc : ¬ (x.2.1 = some ro ∧ x.2.2.2.1 ≤ m) := fun z => w1 z.1
          rw [if_neg (by rw [eO_eq (pI_s xn.2.1) (by omega)]; exact w1), if_neg cc, gl_s]
          exact ih2
      unfold f_X0_occupantOf_7
      rw [n_subm (by omega), Nat.add_sub_cancel, if_neg (by rw [n_lt0 (by omega)]; exact id), g.is rfl, gg_t, c3, gc_s, pe]
      unfold occF
      by_cases w1 : x.2.2.1 = some ro
      · rw [if_pos (by rw [w1]; rfl), g.is rfl, gg_t, c5, gc_s]
        by_cases w2 : x.2.2.2.2 ≤ m
        · rw [if_neg (of_eq_false (nltF (by omega) (by omega) (by omega))), g.is rfl, gg_t, c1, gc_s, if_pos ⟨w1, w2⟩]
          rfl
        · have cc : ¬ (x.2.2.1 = some ro ∧ x.2.2.2.2 ≤ m) := fun z => w2 z.2
          rw [if_pos (of_eq_true (nltT (by omega) (by omega) (by omega))), if_neg cc]
          exact f35
      · have cc : ¬ (x.2.2.1 = some ro ∧ x.2.2.2.2 ≤ m) := fun z => w1 z.1
        rw [if_neg (by rw [eO_eq (pI_s xn.2.2.1) (by omega)]; exact w1), if_neg cc]
        exact f35
  unfold f_X0_occupantOf
  rw [g.gI (k := 1) rfl rfl, gb_s, gl_s, r.1]
  have := lp (hL H).length N (Nat.le_refl _) (by omega)
  rw [List.take_length] at this
  have e : Int32.ofNat (hL H).length - 1 = Int32.ofNat (hL H).length + (-1) := by
    rw [i_eq, i_sub, i_add]
    have e1 : (1 : Int32).toInt = 1 := by decide
    have e2 : (-1 : Int32).toInt = -1 := by decide
    rw [e1, e2]
    rfl
  rw [e]
  exact this
end CDiary

