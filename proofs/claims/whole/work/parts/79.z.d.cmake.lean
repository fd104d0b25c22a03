/-! The component: the porters' plan is made -/
section CMake
variable {N : Nat} {J : List Tri} {p q : Nat} {D0 : OD} {h : PH} {x : Int32} {f0 f3 f4 : Nat → Int32}
theorem db_1le (hJ : JOk J) {row : List Nat} (h : row.length ≤ 7) : (dbS J row).1 ≤ 1400 := by
  have := (dbL_le hJ row db0 0 (Nat.le_refl _) (Nat.zero_le _)).1
  unfold dbS
  omega
theorem c_first (k : XOk J p q D0 h) {lim : Nat} (hl : lim ≤ 2000) (hf : ∀ t, t < 2 ^ J.length → (f4 t).toInt = latJ J lim t) {row : List Nat} (hr : row.length ≤ 7) (hb : BegJ J.length row) (hd : (dbS J row).2.1 ≤ lim) : ∀ d j mm, j + d = J.length → d < mm → (∀ i, i < j → i ∉ row → ¬ FPJ J lim (row ++ [i])) → (∃ i, i < J.length ∧ i ∉ row ∧ FPJ J lim (row ++ [i])) → ∃ i, gi (fun zk zs => f_X5_firstInTime_2 N zk zs.1 zs.2.1 zs.2.2.1 zs.2.2.2.1 zs.2.2.2.2) mm (p, Int32.ofNat (lfJ J.length row), Int32.ofNat (dbS J row).1, Int32.ofNat j, HX p D0 h (Int32.ofNat lim) f0 f3 f4) = some (Int32.ofNat i, HX p D0 h (Int32.ofNat lim) f0 f3 f4) ∧ i < J.length ∧ i ∉ row ∧ FPJ J lim (row ++ [i]) ∧ ∀ i', i' < i → i' ∉ row → ¬ FPJ J lim (row ++ [i']) := by
  have hJ := k.2.2.2.1
  have hL := hJ.1
  have pw := p7 hL
  have ll := lfJ_lt J.length row
  have d1 := db_1le hJ hr
  intro d
  induction d with
  | zero =>
    rintro j mm hj hm h1 ⟨i, i1, i2, i3⟩
    exact absurd i3 (h1 i (by omega) i2)
  | succ d ih =>
    intro j mm hj hm h1 h2
    have hjl : j < J.length := by omega
    obtain ⟨mm, rfl⟩ : ∃ i, mm = i + 1 := ⟨mm - 1, by omega⟩
    have b1 : ¬ Int32.ofNat J.length ≤ Int32.ofNat j := of_eq_false (nleF (by omega) (by omega) (by omega))
    have a99 := (hJ.jt j).1
    have lb := lfJ_b J.length row j
    rw [gi_1]
    generalize hz : gi (fun zk zs => f_X5_firstInTime_2 N zk zs.1 zs.2.1 zs.2.2.1 zs.2.2.2.1 zs.2.2.2.2) mm = zk
    dsimp only
    unfold f_X5_firstInTime_2 f_X5_firstInTime_50
    by_cases z : j ∈ row
    · have z' : (lfJ J.length row).testBit j = false := by
        rw [← Bool.not_eq_true, lb]
        exact fun w => w.2 z
      obtain ⟨i, g1, g2⟩ := ih (j + 1) mm (by omega) (by omega) (fun i hi hn => by
        by_cases w : i = j
        · subst w; exact absurd z hn
        · exact h1 i (by omega) hn) h2
      rw [hz] at g1
      refine ⟨i, ?_, g2⟩
      have e01 : ¬ eB false = 1 := by decide
      rw [← g1, hx_j k, gb_s, hx_n k, gb_s, if_neg b1, c_natBit ll (by omega), gc_s, z', if_neg e01, gl_s, n_add1]
    · have z' : (lfJ J.length row).testBit j = true := lb.mpr ⟨hjl, z⟩
      have q1 := bit_le z'
      have q2 := Nat.two_pow_pos j
      obtain ⟨v, v1, v2, v3, v4⟩ := c_late (N := N) (x := Int32.ofNat lim) (f0 := f0) (f3 := f3) (f4 := f4) k ll z' hl (hf _ (by omega))
      have nx := FPJ_next (lim := lim) hL hb hd hjl z
      have gm : gmax (Int32.ofNat (dbS J row).1) (Int32.ofNat (jt J j).1) = Int32.ofNat (jOn (jt J j) (dbS J row).1) := gmax_n (by omega) (by omega)
      have ol : jOn (jt J j) (dbS J row).1 ≤ 2000 := by unfold jOn; split <;> omega
      by_cases w : FPJ J lim (row ++ [j])
      · have nb : ¬ v < Int32.ofNat (jOn (jt J j) (dbS J row).1) := by
          rw [i_lt, v2, i_ok (by omega)]
          have := nx.mp w
          omega
        refine ⟨j, ?_, hjl, z, w, h1⟩
        rw [hx_j k, gb_s, hx_n k, gb_s, if_neg b1, c_natBit ll (by omega), gc_s, z', if_pos eBT1, hx_j k, gb_s, hx_j0 k, gb_s, hx_b0 k hjl, gb_s, hx_d k, gb_s, hx_is k, gg_t, v1, gc_s, gm, if_neg nb]
      · have nb : v < Int32.ofNat (jOn (jt J j) (dbS J row).1) := by
          rw [i_lt, v2, i_ok (by omega)]
          have : ¬ ((jOn (jt J j) (dbS J row).1 : Nat) : Int) ≤ lsJ J lim (latJ J lim) (lfJ J.length row) j := fun u => w (nx.mpr u)
          omega
        obtain ⟨i, g1, g2⟩ := ih (j + 1) mm (by omega) (by omega) (fun i hi hn => by
          by_cases u : i = j
          · subst u; exact w
          · exact h1 i (by omega) hn) h2
        rw [hz] at g1
        refine ⟨i, ?_, g2⟩
        rw [← g1, hx_j k, gb_s, hx_n k, gb_s, if_neg b1, c_natBit ll (by omega), gc_s, z', if_pos eBT1, hx_j k, gb_s, hx_j0 k, gb_s, hx_b0 k hjl, gb_s, hx_d k, gb_s, hx_is k, gg_t, v1, gc_s, gm, if_pos nb, gl_s, n_add1]
/-- the plan that the cells hold -/
def PlnC (J : List Tri) (row : List Nat) (f0 f3 : Nat → Int32) : Prop := (∀ (i y : Nat), row[i]? = some y → f0 i = Int32.ofNat y) ∧ ∀ j, j ∈ row → f3 j = Int32.ofNat ((dbS J row).2.2.2.1 j + (jt J j).1)
theorem c_takeO (hN : 2000 ≤ N) (k : XOk J p q D0 h) {lim : Nat} (hl : lim ≤ 2000) (hf : ∀ t, t < 2 ^ J.length → (f4 t).toInt = latJ J lim t) : ∀ d mm row f0 f3, row.length + d = J.length → d < mm → BegJ J.length row → FPJ J lim row → LexR J lim row → PlnC J row f0 f3 → ∃ R f0' f3', gi (fun zk zs => f_X5_takeFirstOrder_16 N zk zs.1 zs.2.1 zs.2.2.1 zs.2.2.2.1 zs.2.2.2.2) mm (p, Int32.ofNat (lfJ J.length row), Int32.ofNat (dbS J row).1, Int32.ofNat row.length, HX p D0 h (Int32.ofNat lim) f0 f3 f4) = some (HX p D0 h (Int32.ofNat lim) f0' f3' f4) ∧ POk J.length R ∧ doneS J R ≤ lim ∧ LexR J lim R ∧ PlnC J R f0' f3' := by
  have hJ := k.2.2.2.1
  have hL := hJ.1
  have pw := p7 hL
  intro d
  induction d with
  | zero =>
    intro mm row f0 f3 hr hm hb hp hx hc
    have hr : row.length = J.length := by omega
    obtain ⟨mm, rfl⟩ : ∃ i, mm = i + 1 := ⟨mm - 1, by omega⟩
    refine ⟨row, f0, f3, ?_, ⟨hr, hb.1, hb.2⟩, ?_, hx, hc⟩
    · rw [gi_1]
      dsimp only
      unfold f_X5_takeFirstOrder_16
      rw [hx_j k, gb_s, hx_n k, gb_s, if_pos (of_eq_true (nleT (by omega) (by omega) (by omega)))]
    · exact ((FPJ_iff hL hb).mp hp).1
  | succ d ih =>
    intro mm row f0 f3 hr hm hb hp hx hc
    obtain ⟨mm, rfl⟩ : ∃ i, mm = i + 1 := ⟨mm - 1, by omega⟩
    have hd := ((FPJ_iff hL hb).mp hp).1
    obtain ⟨i, a1, a2, a3, a4, a5⟩ := c_first (N := N) (f0 := f0) (f3 := f3) k hl hf (row := row) (by omega) hb hd J.length 0 N (by omega) (by omega) (fun i hi => by omega) (FPJ_ex hp (by omega))
    have d1 := db_1le hJ (row := row) (by omega)
    obtain ⟨b1, b2, b3⟩ := hJ.jt i
    have o1 := jOn_ge (jt J i) (dbS J row).1
    have o2 : jOn (jt J i) (dbS J row).1 ≤ 2000 := by unfold jOn; split <;> omega
    have dd := dbS_snoc (J := J) row i
    obtain ⟨R, f0', f3', g1, g2⟩ := ih mm (row ++ [i]) (upd f0 row.length (Int32.ofNat i)) (upd f3 i (Int32.ofNat (jOn (jt J i) (dbS J row).1))) (by rw [List.length_append]; show row.length + 1 + d = _; omega) (by omega) (hb.snoc a2 a3) a4 (hx.snoc a5) (by
      refine ⟨?_, ?_⟩
      · intro m y hy
        rw [upd_at]
        rcases Nat.lt_or_ge m row.length with z | z
        · rw [List.getElem?_append_left z] at hy
          rw [if_neg (by omega)]
          exact hc.1 m y hy
        · have := ln_of hy
          rw [List.length_append] at this
          have this : m < row.length + 1 := this
          have e : m = row.length := by omega
          subst e
          rw [List.getElem?_append_right (Nat.le_refl _), Nat.sub_self] at hy
          cases hy
          rw [if_pos rfl]
      · intro j hj
        rw [dd]
        show _ = Int32.ofNat (fu (dbS J row).2.2.2.1 i (jOn (jt J i) (dbS J row).1 - (jt J i).1) j + (jt J j).1)
        rw [upd_at, fu_at]
        by_cases z : j = i
        · rw [if_pos z, if_pos z, z]
          congr 1
          omega
        · rw [if_neg z, if_neg z]
          rcases List.mem_append.mp hj with w | w
          · exact hc.2 j w
          · exact absurd (List.mem_singleton.mp w) z)
    refine ⟨R, f0', f3', ?_, g2⟩
    have bt : (lfJ J.length row).testBit i = true := (lfJ_b _ _ _).mpr ⟨a2, a3⟩
    have e1 : (dbS J (row ++ [i])).1 = jOn (jt J i) (dbS J row).1 + (jt J i).2.1 := by rw [dd]; rfl
    have e2 : (row ++ [i]).length = row.length + 1 := by rw [List.length_append]; rfl
    have gm : gmax (Int32.ofNat (dbS J row).1) (Int32.ofNat (jt J i).1) = Int32.ofNat (jOn (jt J i) (dbS J row).1) := gmax_n (by omega) (by omega)
    have n1 : ¬ Int32.ofNat J.length ≤ Int32.ofNat row.length := of_eq_false (nleF (by omega) (by omega) (by omega))
    have n2 : ¬ Int32.ofNat i = -1 := of_eq_false (n_m1 (by omega))
    rw [e1, e2, lfJ_s a2 a3] at g1
    rw [← g1, gi_1]
    generalize hz : gi (fun zk zs => f_X5_takeFirstOrder_16 N zk zs.1 zs.2.1 zs.2.2.1 zs.2.2.2.1 zs.2.2.2.2) mm = zk
    dsimp only
    unfold f_X5_takeFirstOrder_16
    have a1 : f_X5_firstInTime N p (Int32.ofNat (lfJ J.length row)) (Int32.ofNat (dbS J row).1) (HX p D0 h (Int32.ofNat lim) f0 f3 f4) = some (Int32.ofNat i, HX p D0 h (Int32.ofNat lim) f0 f3 f4) := a1
    rw [hx_j k, gb_s, hx_n k, gb_s, if_neg n1, hx_is k, gg_t, a1, gc_s, if_neg n2, hx_g0 k, gb_s, hx_e0 k (ixn (by omega) (by omega)), gb_s, hx_g3 k, gb_s, hx_j k, gb_s, hx_j0 k, gb_s, hx_b0 k a2, gb_s, gm, hx_e3 k (ixn (by omega) (by omega)), gb_s, hx_g3 k, gb_s, hx_a3 k (ixn (by omega) (by omega)), gb_s, hx_j k, gb_s, hx_j1 k, gb_s, hx_b1 k a2, gb_s, gl_s, gl_s, gl_s, n_add1, i_okc (by omega), i_okc (by omega), upd_eq rfl, n_add, b_sub (lfJ_lt _ _) (by omega) bt]
theorem c_made (hN : 2000 ≤ N) (k : XOk J p q D0 h) : ∃ f0' f3' f4', f_X5_make_63 N p (Int32.ofNat (pBest J).1) (HX p D0 h x f0 f3 f4) = some (HX p D0 h (Int32.ofNat (pBest J).1) f0' f3' f4') ∧ PlnC J (pBest J).2 f0' f3' := by
  have hJ := k.2.2.2.1
  have hL := hJ.1
  have pw := p7 hL
  have pp := Nat.two_pow_pos J.length
  obtain ⟨b1, b2, b3⟩ := pBest_ok hJ
  obtain ⟨f4', c1, c2⟩ := c_can (x := Int32.ofNat (pBest J).1) (f0 := f0) (f3 := f3) (f4 := f4) hN k (lim := (pBest J).1) (by omega)
  obtain ⟨R, f0', f3', g1, g2, g3, g4, g5⟩ := c_takeO (f4 := f4') hN k (lim := (pBest J).1) (by omega) c2 J.length N [] f0 f3 (by simp) (by omega) ⟨List.nodup_nil, fun j hj => by cases hj⟩ ⟨(pBest J).2, b1, by show doneS J (pBest J).2 ≤ _; omega⟩ (fun m y i hm => by cases hm) ⟨fun i y hy => (by cases hy), fun j hj => (by cases hj)⟩
  have eR := pBest_lex hJ g2 g3 g4
  refine ⟨f0', f3', f4', ?_, by rw [eR]; exact g5⟩
  have sl : (1 : Int32) <<< (Int32.ofNat J.length &&& 31) - 1 = Int32.ofNat (lfJ J.length []) := by
    rw [shl1 _ (by omega)]
    have h1 := msk_1 J.length
    have h2 : lfJ J.length [] = msk (fun _ => true) J.length := msk_ext (fun k _ => by simp)
    rw [show lfJ J.length [] = 2 ^ J.length - 1 by omega]
    exact n_sub (b := 1) (by omega)
  have t1 : f_X5_takeFirstOrder N p (HX p D0 h (Int32.ofNat (pBest J).1) f0 f3 f4') = some (HX p D0 h (Int32.ofNat (pBest J).1) f0' f3' f4') := by
    unfold f_X5_takeFirstOrder
    rw [hx_j k, gb_s, hx_n k, gb_s, gl_s, sl]
    exact g1
  unfold f_X5_make_63
  rw [hx_sd k, gb_s, hx_d k, gb_s, hx_is k, gg_t, c1, gc_s, hx_is k, gg_t, t1, gb_s]
theorem n_half {a : Nat} (ha : a < 2147483648) : Int32.ofNat a / 2 = Int32.ofNat (a / 2) := by
  rw [i_eq, Int32.toInt_div_of_ne_right _ _ (by decide), i_ok ha, i_ok (by omega)]
  have : (2 : Int32).toInt = 2 := rfl
  rw [this]
  rw [Int.tdiv_eq_ediv_of_nonneg (by omega)]
  omega
theorem c_make (hN : 2000 ≤ N) {D : OD} (d5 : At sX5 p D h) (hd : q + 4 ≤ p ∨ p + 4 ≤ q) (hJ : JOk J) {E : OD} (e1 : At sX4 q E h) (e2 : oi E 3 = Int32.ofNat J.length) (e3 : RepTri J E) : ∃ f0 f3 f4, f_X5_make N p q h = some (HX p (sv D 2 (.ref q)) h (Int32.ofNat (pBest J).1) f0 f3 f4) ∧ PlnC J (pBest J).2 f0 f3 ∧ XOk J p q (sv D 2 (.ref q)) h := by
  have k : XOk J p q (sv D 2 (.ref q)) h := ⟨d5.1, by rw [ov_sv, if_pos rfl], hd, hJ, E, e1, e2, e3⟩
  obtain ⟨b1, b2, b3⟩ := pBest_ok hJ
  have hL := hJ.1
  have tm : (pBest J).1 ≤ doneS J (List.range J.length) := tryJ_min J.length [] _ (by simp) (List.range J.length) (range_POk J.length)
  have tl := doneS_le hJ (row := List.range J.length) (by simpa using hL)
  have s5 := d5.sV (k := 2) (ci := 5) (v := .ref q) rfl rfl
  generalize hD1 : sv D 2 (.ref q) = D1 at k s5 ⊢
  have lp : ∀ d hv l e mm f4, e < l + 2 ^ d → l ≤ (pBest J).1 → (pBest J).1 ≤ e → e ≤ 1485 → d + hv ≤ 32 → d < mm → ∃ f0' f3' f4', gi (fun zk zs => f_X5_make_18 N zk zs.1 zs.2.1 zs.2.2.1 zs.2.2.2.1 zs.2.2.2.2) mm (p, Int32.ofNat l, Int32.ofNat e, Int32.ofNat hv, HX p D1 h (oi D1 1) (oa D1 0) (oa D1 3) f4) = some (HX p D1 h (Int32.ofNat (pBest J).1) f0' f3' f4') ∧ PlnC J (pBest J).2 f0' f3' := by
    have ends : ∀ hv l e mm f4, e ≤ l → l ≤ (pBest J).1 → (pBest J).1 ≤ e → 0 < mm → ∃ f0' f3' f4', gi (fun zk zs => f_X5_make_18 N zk zs.1 zs.2.1 zs.2.2.1 zs.2.2.2.1 zs.2.2.2.2) mm (p, Int32.ofNat l, Int32.ofNat e, Int32.ofNat hv, HX p D1 h (oi D1 1) (oa D1 0) (oa D1 3) f4) = some (HX p D1 h (Int32.ofNat (pBest J).1) f0' f3' f4') ∧ PlnC J (pBest J).2 f0' f3' := by
      intro hv l e mm f4 h1 h2 h3 h4
      have ee : e = (pBest J).1 := by omega
      have el : l = (pBest J).1 := by omega
      subst ee
      subst el
      obtain ⟨f0', f3', f4', m1, m2⟩ := c_made (x := oi D1 1) (f0 := oa D1 0) (f3 := oa D1 3) (f4 := f4) hN k
      refine ⟨f0', f3', f4', ?_, m2⟩
      obtain ⟨mm, rfl⟩ : ∃ i, mm = i + 1 := ⟨mm - 1, by omega⟩
      rw [gi_1]
      dsimp only
      unfold f_X5_make_18
      by_cases z : (32 : Int32) ≤ Int32.ofNat hv
      · rw [if_pos z]
        exact m1
      · rw [if_neg z, if_pos (of_eq_true (nleT (Nat.le_refl _) (by omega) (by omega)))]
        exact m1
    intro d
    induction d with
    | zero =>
      intro hv l e mm f4 h1 h2 h3 h4 h5 h6
      exact ends hv l e mm f4 (by omega) h2 h3 (by omega)
    | succ d ih =>
      intro hv l e mm f4 h1 h2 h3 h4 h5 h6
      by_cases z : e ≤ l
      · exact ends hv l e mm f4 z h2 h3 (by omega)
      · rw [Nat.pow_succ] at h1
        obtain ⟨mm, rfl⟩ : ∃ i, mm = i + 1 := ⟨mm - 1, by omega⟩
        obtain ⟨f4', c1, c2⟩ := c_can (x := oi D1 1) (f0 := oa D1 0) (f3 := oa D1 3) (f4 := f4) hN k (lim := (l + e) / 2) (by omega)
        have n1 : ((32 : Int32) ≤ Int32.ofNat hv) = False := nleF (a := 32) (by omega) (by omega) (by omega)
        rw [gi_1]
        generalize hz : gi (fun zk zs => f_X5_make_18 N zk zs.1 zs.2.1 zs.2.2.1 zs.2.2.2.1 zs.2.2.2.2) mm = zk
        dsimp only
        unfold f_X5_make_18 f_X5_make_57
        rw [if_neg (of_eq_false n1), if_neg (of_eq_false (nleF z (by omega) (by omega))), n_add, n_half (by omega), gl_s, hx_is k, gg_t, c1, gc_s, gl_s, gl_s, gl_s, n_add1, n_add1]
        by_cases w : (pBest J).1 ≤ (l + e) / 2
        · have := ih (hv + 1) l ((l + e) / 2) mm f4' (by omega) h2 w (by omega) (by omega) (by omega)
          rw [hz] at this
          rw [decide_eq_true w, if_neg (eBt _ rfl)]
          exact this
        · have := ih (hv + 1) ((l + e) / 2 + 1) e mm f4' (by omega) (by omega) h3 h4 (by omega) (by omega)
          rw [hz] at this
          rw [decide_eq_false w, if_pos (eBf _ rfl)]
          exact this
  have hs : pt sX5 p D1 h = HX p D1 h (oi D1 1) (oa D1 0) (oa D1 3) (oa D1 4) := by
    unfold HX
    have y1 := si_self D1 1
    have y2 := sa_self D1 0
    have y3 := sa_self D1 3
    have y4 := sa_self D1 4
    rw [y1, y2, y3, y4]
  obtain ⟨f0', f3', f4', g1, g2⟩ := lp 11 0 0 (doneS J (List.range J.length)) N (oa D1 4) (by omega) (by omega) tm tl (by omega) (by omega)
  refine ⟨f0', f3', f4', ?_, g2, k⟩
  obtain ⟨E', a1, a2, a3⟩ := hx_at (x := oi D1 1) (f0 := oa D1 0) (f3 := oa D1 3) (f4 := oa D1 4) k
  unfold f_X5_make
  rw [s5, gb_s, hs, hx_j k, gb_s, a1.is rfl, gg_t, c_doneTold hN a1 a2 a3 hJ, gc_s]
  exact g1
end CMake

