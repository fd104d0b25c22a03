/-! The component: porters, answered -/
section CWork
variable {N : Nat} {J : List Tri} {p q : Nat} {D0 : OD} {h : PH} {x : Int32} {f0 f3 f4 : Nat → Int32}
/-- begin and end of each job of an order; how long all wait -/
theorem db_all (hJ : JOk J) : ∀ (row : List Nat), BegJ J.length row → (∀ j, j ∉ row → (dbS J row).2.2.2.1 j = 0) ∧ (∀ j, j ∈ row → (dbS J row).2.2.2.2 j = (dbS J row).2.2.2.1 j + (jt J j).1 + (jt J j).2.1 + (jt J j).2.2) ∧ gsum (dbS J row).2.2.2.1 J.length = (dbS J row).2.2.1 := by
  refine snoc_ind ?_ ?_
  · intro _
    exact ⟨fun j _ => rfl, fun j hj => (by cases hj), gsum_0 _ (fun k _ => rfl)⟩
  · intro row i ih hb
    have hb1 : BegJ J.length row := ⟨(List.nodup_append.mp hb.1).1, fun j hj => hb.2 j (List.mem_append_left _ hj)⟩
    have ni : i ∉ row := fun w => (List.nodup_append.mp hb.1).2.2 i w i (List.mem_singleton.mpr rfl) rfl
    have il : i < J.length := hb.2 i (List.mem_append_right _ (List.mem_singleton.mpr rfl))
    obtain ⟨a1, a2, a3⟩ := ih hb1
    have o1 := jOn_ge (jt J i) (dbS J row).1
    rw [dbS_snoc]
    have e1 : (dbF J (dbS J row) i).2.2.2.1 = fu (dbS J row).2.2.2.1 i (jOn (jt J i) (dbS J row).1 - (jt J i).1) := rfl
    have e2 : (dbF J (dbS J row) i).2.2.2.2 = fu (dbS J row).2.2.2.2 i (jOn (jt J i) (dbS J row).1 + (jt J i).2.1 + (jt J i).2.2) := rfl
    have e3 : (dbF J (dbS J row) i).2.2.1 = (dbS J row).2.2.1 + (jOn (jt J i) (dbS J row).1 - (jt J i).1) := rfl
    rw [e1, e2, e3]
    refine ⟨?_, ?_, ?_⟩
    · intro j hj
      have z1 : j ∉ row := fun w => hj (List.mem_append_left _ w)
      have z2' : j ≠ i := fun w => hj (List.mem_append_right _ (List.mem_singleton.mpr w))
      rw [fu_ne z2']
      exact a1 j z1
    · intro j hj
      rw [fu_at, fu_at]
      by_cases z : j = i
      · rw [if_pos z, if_pos z, z]
        omega
      · rw [if_neg z, if_neg z]
        rcases List.mem_append.mp hj with w | w
        · exact a2 j w
        · exact absurd (List.mem_singleton.mp w) z
    · have := gsum_fu (f := (dbS J row).2.2.2.1) (a := i) (v := jOn (jt J i) (dbS J row).1 - (jt J i).1) J.length il
      rw [a1 i ni, a3] at this
      omega
/-- the begin of each job, as the cells have it -/
def BegC (J : List Tri) (b : Nat → Nat) (f3 : Nat → Int32) : Prop := (∀ j, b j ≤ 2000) ∧ ∀ j, j < J.length → f3 j = Int32.ofNat (b j + (jt J j).1)
theorem gsum_b {b : Nat → Nat} (hb : ∀ j, b j ≤ 2000) : ∀ n, gsum b n ≤ 2000 * n := by
  intro n
  induction n with
  | zero => exact Nat.le_refl _
  | succ n ih =>
    have := hb n
    show gsum b n + b n ≤ _
    omega
theorem c_waits (hN : 2000 ≤ N) (k : XOk J p q D0 h) {b : Nat → Nat} (hb : BegC J b f3) : f_X5_waits N p (HX p D0 h x f0 f3 f4) = some (Int32.ofNat (gsum b J.length), HX p D0 h x f0 f3 f4) := by
  have hJ := k.2.2.2.1
  have hL := hJ.1
  have lp : ∀ d j mm, j + d = J.length → d < mm → gi (fun zk zs => f_X5_waits_4 N zk zs.1 zs.2.1 zs.2.2.1 zs.2.2.2) mm (p, Int32.ofNat (gsum b j), Int32.ofNat j, HX p D0 h x f0 f3 f4) = some (Int32.ofNat (gsum b J.length), HX p D0 h x f0 f3 f4) := by
    intro d
    induction d with
    | zero =>
      intro j mm hj hm
      have : j = J.length := by omega
      subst this
      obtain ⟨mm, rfl⟩ : ∃ i, mm = i + 1 := ⟨mm - 1, by omega⟩
      rw [gi_1]
      dsimp only
      unfold f_X5_waits_4
      rw [hx_j k, gb_s, hx_n k, gb_s, if_pos (of_eq_true (nleT (Nat.le_refl _) (by omega) (by omega)))]
    | succ d ih =>
      intro j mm hj hm
      have hjl : j < J.length := by omega
      obtain ⟨mm, rfl⟩ : ∃ i, mm = i + 1 := ⟨mm - 1, by omega⟩
      have i1 := ih (j + 1) mm (by omega) (by omega)
      have e : gsum b (j + 1) = gsum b j + b j := rfl
      rw [e] at i1
      rw [← i1, gi_1]
      generalize hz : gi _ mm = zk
      dsimp only
      unfold f_X5_waits_4
      rw [hx_j k, gb_s, hx_n k, gb_s, if_neg (of_eq_false (nleF (by omega) (by omega) (by omega))), hx_g3 k, gb_s, hx_a3 k (ixn (by omega) (by omega)), gb_s, gb_s, hx_j0 k, gb_s, hx_b0 k hjl, gb_s, gl_s, gl_s, n_add1, i_okc (by omega), hb.2 j hjl, n_sub (by omega), Nat.add_sub_cancel, n_add]
  exact lp J.length 0 N (by omega) (by omega)
theorem c_atWork (k : XOk J p q D0 h) {b e : Nat → Nat} (hb : BegC J b f3) (he : ∀ j, j < J.length → e j = b j + (jt J j).1 + (jt J j).2.1 + (jt J j).2.2) {j m : Nat} (hj : j < J.length) (hm : m ≤ 2000) : f_X5_isAtWork N p (Int32.ofNat j) (Int32.ofNat m) (HX p D0 h x f0 f3 f4) = some (eB (decide (b j ≤ m ∧ m < e j)), HX p D0 h x f0 f3 f4) := by
  have hJ := k.2.2.2.1
  have hL := hJ.1
  obtain ⟨b1, b2, b3⟩ := hJ.jt j
  have bj := hb.1 j
  have ej := he j hj
  unfold f_X5_isAtWork f_X5_isAtWork_56 f_X5_isAtWork_57
  have a3 : arI 0 (pl p 1) (Int32.ofNat j) (HX p D0 h x f0 f3 f4) = some (Int32.ofNat (b j + (jt J j).1)) := by
    rw [hx_a3 k (ixn (by omega) (by omega)), i_okc (by omega), hb.2 j hj]
  simp only [hx_g3 k, gb_s, a3, hx_j k, hx_j1 k, hx_b1 k hj, hx_j2 k, hx_b2 k hj, gl_s, hx_j0 k, hx_b0 k hj, gzb0, gzb1, gg_t]
  rw [n_sub (by omega), Nat.add_sub_cancel, n_add, n_add, ← ej]
  by_cases z : m < b j
  · rw [if_pos (of_eq_true (nltT z (by omega) (by omega))), decide_eq_false (by omega)]
    rfl
  · rw [if_neg (of_eq_false (nltF z (by omega) (by omega)))]
    by_cases w : e j ≤ m
    · rw [if_pos (of_eq_true (nleT w (by omega) (by omega))), decide_eq_false (by omega)]
      rfl
    · rw [if_neg (of_eq_false (nleF w (by omega) (by omega))), decide_eq_true (by omega)]
      rfl
theorem c_needed (hN : 2000 ≤ N) (k : XOk J p q D0 h) {b e : Nat → Nat} (hb : BegC J b f3) (he : ∀ j, j < J.length → e j = b j + (jt J j).1 + (jt J j).2.1 + (jt J j).2.2) : f_X5_portersNeeded N p (HX p D0 h x f0 f3 f4) = some (Int32.ofNat (maS b e J.length J.length), HX p D0 h x f0 f3 f4) := by
  have hJ := k.2.2.2.1
  have hL := hJ.1
  have inn : ∀ (K : (Nat × Int32 × Int32 × PH) → Option (Int32 × PH)) (j : Nat), j < J.length → ∀ d i mm, i + d = J.length → d < mm → gi (fun zk zs => f_X5_portersNeeded_20 N K zk zs.1 zs.2.1 zs.2.2.1 zs.2.2.2.1 zs.2.2.2.2.1 zs.2.2.2.2.2) mm (p, Int32.ofNat (maS b e J.length j), Int32.ofNat j, Int32.ofNat (mcS b e j i), Int32.ofNat i, HX p D0 h x f0 f3 f4) = K (p, Int32.ofNat (maS b e J.length (j + 1)), Int32.ofNat (j + 1), HX p D0 h x f0 f3 f4) := by
    intro K j hj d
    have c1 := maS_le b e J.length j
    have bj := hb.1 j
    induction d with
    | zero =>
      intro i mm hi hm
      have : i = J.length := by omega
      subst this
      have c2 := mcS_le b e j J.length
      obtain ⟨mm, rfl⟩ : ∃ i, mm = i + 1 := ⟨mm - 1, by omega⟩
      rw [gi_1]
      generalize hz : gi _ mm = zk
      dsimp only
      unfold f_X5_portersNeeded_20
      rw [hx_j k, gb_s, hx_n k, gb_s, if_pos (of_eq_true (nleT (Nat.le_refl _) (by omega) (by omega))), gl_s, gl_s, n_add1, gmax_n (by omega) (by omega)]
      rfl
    | succ d ih =>
      intro i mm hi hm
      have hil : i < J.length := by omega
      obtain ⟨mm, rfl⟩ : ∃ i, mm = i + 1 := ⟨mm - 1, by omega⟩
      have i1 := ih (i + 1) mm (by omega) (by omega)
      rw [← i1, gi_1]
      generalize hz : gi _ mm = zk
      dsimp only
      unfold f_X5_portersNeeded_20 f_X5_portersNeeded_63
      rw [hx_j k, gb_s, hx_n k, gb_s, if_neg (of_eq_false (nleF (by omega) (by omega) (by omega))), hx_g3 k, gb_s, hx_a3 k (ixn (by omega) (by omega)), gb_s, gb_s, hx_j0 k, gb_s, hx_b0 k hj, gb_s, hx_is k, gg_t, i_okc (by omega), hb.2 j hj, n_sub (by omega), Nat.add_sub_cancel, c_atWork k hb he hil bj, gc_s, gl_s, gl_s, gl_s, gl_s, n_add1, n_add1]
      have em : mcS b e j (i + 1) = mcS b e j i + if b i ≤ b j ∧ b j < e i then 1 else 0 := rfl
      rw [em]
      by_cases z : b i ≤ b j ∧ b j < e i
      · rw [decide_eq_true z, if_neg (eBt _ rfl), if_pos z]
      · rw [decide_eq_false z, if_pos (eBf _ rfl), if_neg z]
        have y : Int32.ofNat (mcS b e j i) + 0 = Int32.ofNat (mcS b e j i + 0) := n_add _ 0
        rw [y]
  have out : ∀ d j mm, j + d = J.length → d < mm → gi (fun zk zs => f_X5_portersNeeded_4 N zk zs.1 zs.2.1 zs.2.2.1 zs.2.2.2) mm (p, Int32.ofNat (maS b e J.length j), Int32.ofNat j, HX p D0 h x f0 f3 f4) = some (Int32.ofNat (maS b e J.length J.length), HX p D0 h x f0 f3 f4) := by
    intro d
    induction d with
    | zero =>
      intro j mm hj hm
      have : j = J.length := by omega
      subst this
      obtain ⟨mm, rfl⟩ : ∃ i, mm = i + 1 := ⟨mm - 1, by omega⟩
      rw [gi_1]
      dsimp only
      unfold f_X5_portersNeeded_4
      rw [hx_j k, gb_s, hx_n k, gb_s, if_pos (of_eq_true (nleT (Nat.le_refl _) (by omega) (by omega)))]
    | succ d ih =>
      intro j mm hj hm
      obtain ⟨mm, rfl⟩ : ∃ i, mm = i + 1 := ⟨mm - 1, by omega⟩
      have i1 := ih (j + 1) mm (by omega) (by omega)
      rw [gi_1]
      generalize hz : gi (fun zk zs => f_X5_portersNeeded_4 N zk zs.1 zs.2.1 zs.2.2.1 zs.2.2.2) mm = zk at i1 ⊢
      dsimp only
      unfold f_X5_portersNeeded_4
      rw [hx_j k, gb_s, hx_n k, gb_s, if_neg (of_eq_false (nleF (by omega) (by omega) (by omega))), ← i1]
      exact inn zk j (by omega) J.length 0 N (by omega) (by omega)
  exact out J.length 0 N (by omega) (by omega)
variable {A : AA}
theorem c_porters (hN : 2000 ≤ N) (hA' : AOk A) (w : Int32) : CAns A A (f_X11_porters N 0 w) (ansPorters A w) := by
  intro h qq
  obtain ⟨b, mk, qq⟩ := qq
  obtain ⟨E, e1, e2, e3⟩ := qq.jobs
  have hJ := hA'.2.1.jobs
  have hL := hJ.1
  unfold f_X11_porters f_X11_porters_33 ansPorters
  rw [qq.stt, gb_s, qq.e9.2.2.2.2.2.2.2.1, gb_s, e1.gI (k := 3) rfl rfl, gb_s, e2]
  by_cases z0' : (sJ (aS A)).length = 0
  · rw [if_pos (by rw [z0']; rfl), z0']
    exact ⟨h, rfl, ⟨b, mk, qq⟩, Fr.rf⟩
  · have n0 : ¬ Int32.ofNat (sJ (aS A)).length = 0 := of_eq_false (neqF (b := 0) z0' (by omega) (by omega))
    rw [if_neg n0]
    have l3 : (3 : Int32) + Int32.ofNat (sJ (aS A)).length = Int32.ofNat (3 + (sJ (aS A)).length) := n_add 3 _
    cases z : isN w (3 + (sJ (aS A)).length) with
    | false =>
      rw [Bool.and_false]
      by_cases z1' : w < 0
      · rw [if_pos z1']
        exact ⟨h, rfl, ⟨b, mk, qq⟩, Fr.rf⟩
      · rcases isN_f z with u | u
        · exact absurd u z1'
        · have e4 : gfI 4 3 25 h = some (Int32.ofNat (sJ (aS A)).length) := by rw [e1.gI (k := 3) rfl rfl, e2]
          rw [if_neg z1', gb_s, qq.e9.2.2.2.2.2.2.2.1, gb_s, e4, gb_s, l3, if_neg (Int32.not_lt.mpr u)]
          exact ⟨h, rfl, ⟨b, mk, qq⟩, Fr.rf⟩
    | true =>
      obtain ⟨v, hv, rfl⟩ := isN_t (by omega) z
      obtain ⟨a1, a2, a3, a4, a5, a6, a7, a8, a9, a10, a11, a12, a13⟩ := qq
      have qq : RC A b mk h := ⟨a1, a2, a3, a4, a5, a6, a7, a8, a9, a10, a11, a12, a13⟩
      obtain ⟨D, d5⟩ := a9
      obtain ⟨f0, f3, f4, g1, g2, k⟩ := c_make (N := N) (q := 25) hN d5 (Or.inl (by omega)) hJ e1 e2 e3
      generalize sv D 2 (.ref 25) = D1 at g1 k
      have fr : Fr (fun x => 55 ≤ x ∧ x < 59) h (HX 55 D1 h (Int32.ofNat (pBest (sJ (aS A))).1) f0 f3 f4) := Fr.of (fun x q1 q2 => ⟨q1, q2⟩)
      have q2 : RC A b mk (HX 55 D1 h (Int32.ofNat (pBest (sJ (aS A))).1) f0 f3 f4) := qq.sc (fr.up (fun x hx => by omega)) (a4.fr fr (fun x _ _ => by omega)) ⟨_, At_pt d5.1⟩ (a10.fr fr (fun x _ _ => by omega)) (a11.fr fr (by omega)) (a12.fr fr (by omega))
      obtain ⟨p1, p2, p3⟩ := pBest_ok hJ
      have bg : BegJ (sJ (aS A)).length (pBest (sJ (aS A))).2 := ⟨p1.2.1, p1.2.2⟩
      obtain ⟨x1, x2, x3⟩ := db_all hJ _ bg
      have pm := perm_mem _ p1.2.1 p1.2.2 p1.1
      have bb : ∀ j, (dbS (sJ (aS A)) (pBest (sJ (aS A))).2).2.2.2.1 j ≤ 2000 ∧ (dbS (sJ (aS A)) (pBest (sJ (aS A))).2).2.2.2.2 j ≤ 2000 := dbB_le hJ _ db0 0 (Nat.le_refl _) (Nat.zero_le _) (by rw [p1.1]; omega) (fun j => ⟨Nat.zero_le _, Nat.zero_le _⟩)
      have bc : BegC (sJ (aS A)) (dbS (sJ (aS A)) (pBest (sJ (aS A))).2).2.2.2.1 f3 := ⟨fun j => (bb j).1, fun j hj => g2.2 j (pm j hj)⟩
      have g11 : gfR 11 5 0 h = some 55 := qq.e11.2.2.2.2.2.2.1
      have g12 := q2.e11.2.2.2.2.2.2.1
      have is5 : gIs 5 55 h = true := d5.is rfl
      have nl0 : ¬ Int32.ofNat v < 0 := of_eq_false (n_lt0 (by omega))
      have tt : (decide ((sJ (aS A)).length ≠ 0) && true) = true := by simp [z0']
      refine ⟨_, ?_, ⟨b, mk, q2⟩, fr.nmd (fun x hx => by omega)⟩
      have e4 : gfI 4 3 25 h = some (Int32.ofNat (sJ (aS A)).length) := by rw [e1.gI (k := 3) rfl rfl, e2]
      have g9 := qq.e9.2.2.2.2.2.2.2.1
      have wt := c_waits (N := N) (x := Int32.ofNat (pBest (sJ (aS A))).1) (f0 := f0) (f4 := f4) hN k bc
      have nd' := c_needed (N := N) (x := Int32.ofNat (pBest (sJ (aS A))).1) (f0 := f0) (f4 := f4) hN k bc (fun j hj => x2 j (pm j hj))
      have lt3 : Int32.ofNat v < Int32.ofNat (3 + (sJ (aS A)).length) := of_eq_true (nltT hv (by omega) (by omega))
      simp only [nl0, if_false, gb_s, g9, e4, l3, lt3, if_true, g11, is5, gg_t, g1, g12, hx_d k, hx_is k, wt, gc_s, nd', hx_g0 k, tt, x3]
      by_cases y0 : Int32.ofNat v = 0
      · rw [if_pos y0, if_pos y0]
      · rw [if_neg y0, if_neg y0]
        by_cases y1 : Int32.ofNat v = 1
        · rw [if_pos y1, if_pos y1]
        · rw [if_neg y1, if_neg y1]
          by_cases y2 : Int32.ofNat v = 2
          · rw [if_pos y2, if_pos y2]
          · rw [if_neg y2, if_neg y2]
            have v0 : v ≠ 0 := fun e => y0 (by rw [e]; rfl)
            have v1 : v ≠ 1 := fun e => y1 (by rw [e]; rfl)
            have v2 : v ≠ 2 := fun e => y2 (by rw [e]; rfl)
            have s3 : Int32.ofNat v - 3 = Int32.ofNat (v - 3) := n_sub (b := 3) (by omega)
            have hx : (pBest (sJ (aS A))).2[v - 3]? = some ((pBest (sJ (aS A))).2.getD (v - 3) 0) := by
              rw [List.getD_eq_getElem?_getD, List.getElem?_eq_getElem (by rw [p1.1]; omega)]
              rfl
            rw [s3, hx_a0 k (ixn (by omega) (by omega)), gb_s, i_okc (by omega), i_okc (by omega), g2.1 _ _ hx]
end CWork

