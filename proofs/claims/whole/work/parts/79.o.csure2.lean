/-! The component: sure -/
theorem sb_sw {s r r' : Nat} (hs : s < 1024) (h : s.testBit r = true) (h' : (s - 2 ^ r).testBit r' = true) : s.testBit r' = true ∧ (s - 2 ^ r').testBit r = true ∧ s - 2 ^ r - 2 ^ r' = s - 2 ^ r' - 2 ^ r := by
  rw [sb hs h, Bool.and_eq_true, decide_eq_true_eq] at h'
  refine ⟨h'.2, ?_, Nat.sub_right_comm _ _ _⟩
  have ne : r ≠ r' := fun z => h'.1 z.symm
  rw [sb hs h'.2, h, decide_eq_true ne]
  rfl
theorem w_mid {R : Nat} {a : List Nat} {x : Nat} : ∀ (n : Nat) (b : List Nat), b.length = n → ∀ s, s < 1024 → ((0 < wRun R (a ++ [x] ++ b) s) ↔ (0 < wRun R (a ++ b ++ [x]) s)) := by
  intro n
  induction n with
  | zero =>
    intro b hb s hs
    have : b = [] := List.eq_nil_of_length_eq_zero hb
    subst this
    rw [List.append_nil, List.append_nil]
  | succ n ih =>
    intro b hb s hs
    rcases List.eq_nil_or_concat b with z | ⟨b', y, z⟩
    · subst z; cases hb
    · rw [List.concat_eq_append] at z
      subst z
      rw [List.length_append] at hb
      have hb : b'.length + 1 = n + 1 := hb
      have e1 : a ++ [x] ++ (b' ++ [y]) = (a ++ [x] ++ b') ++ [y] := by simp only [List.append_assoc]
      have e2 : a ++ (b' ++ [y]) ++ [x] = ((a ++ b') ++ [y]) ++ [x] := by simp only [List.append_assoc]
      rw [e1, e2, wrun_a, wrun_a]
      rw [pos_step, pos_step]
      constructor
      · intro ⟨r, h1, h2, h3, h4⟩
        have h4 := (ih b' (by omega) (s - 2 ^ r) (Nat.lt_of_le_of_lt (Nat.sub_le _ _) hs)).mp h4
        rw [wrun_a, pos_step] at h4
        obtain ⟨r', k1, k2, k3, k4⟩ := h4
        obtain ⟨w1, w2, w3⟩ := sb_sw hs h3 k3
        refine ⟨r', k1, k2, w1, ?_⟩
        rw [wrun_a, pos_step]
        exact ⟨r, h1, h2, w2, by rw [← w3]; exact k4⟩
      · intro ⟨r, h1, h2, h3, h4⟩
        rw [wrun_a, pos_step] at h4
        obtain ⟨r', k1, k2, k3, k4⟩ := h4
        obtain ⟨w1, w2, w3⟩ := sb_sw hs h3 k3
        refine ⟨r', k1, k2, w1, (ih b' (by omega) (s - 2 ^ r') (Nat.lt_of_le_of_lt (Nat.sub_le _ _) hs)).mpr ?_⟩
        rw [wrun_a, pos_step]
        exact ⟨r, h1, h2, w2, by rw [← w3]; exact k4⟩
theorem pgL_mid {P : Nat → Nat} {g r : Nat} : ∀ n, (n ≤ g → pgL P (some g) r n = pgW P (some g) n) ∧ (g < n → P g ≠ 0 → ∃ a b, pgL P (some g) r n = a ++ [P g &&& 2 ^ r] ++ b ∧ pgW P (some g) n = a ++ b) := by
  intro n
  induction n with
  | zero => exact ⟨fun _ => rfl, fun h => by omega⟩
  | succ n ih =>
    have eL : pgL P (some g) r (n + 1) = if P n = 0 then pgL P (some g) r n else pgL P (some g) r n ++ [mayP P (some g) r n] := rfl
    have eW : pgW P (some g) (n + 1) = if P n = 0 then pgW P (some g) n else if some g = some n then pgW P (some g) n else pgW P (some g) n ++ [P n] := rfl
    refine ⟨fun hn => ?_, fun hn hg => ?_⟩
    · have ne : ¬ some g = some n := fun z => by cases z; omega
      rw [eL, eW, ih.1 (by omega)]
      unfold mayP
      rw [if_neg ne, if_neg ne]
    · by_cases z : g = n
      · subst z
        refine ⟨pgW P (some g) g, [], ?_, ?_⟩
        · rw [eL, if_neg hg, ih.1 (Nat.le_refl _), List.append_nil]
          unfold mayP
          rw [if_pos rfl]
        · rw [eW, if_neg hg, if_pos rfl, List.append_nil]
      · obtain ⟨a, b, k1, k2⟩ := ih.2 (by omega) hg
        have ne : ¬ some g = some n := fun w => by cases w; omega
        by_cases y : P n = 0
        · exact ⟨a, b, by rw [eL, if_pos y, k1], by rw [eW, if_pos y, k2]⟩
        · refine ⟨a, b ++ [P n], ?_, ?_⟩
          · rw [eL, if_neg y, k1]
            unfold mayP
            rw [if_neg ne, List.append_assoc]
          · rw [eW, if_neg y, if_neg ne, k2, List.append_assoc]
theorem sure_pos {R : Nat} (hR : R ≤ 10) {P : Nat → Nat} {g r n : Nat} (hg : g < n) (hr : r < R) (hb : (P g).testBit r = true) : (0 < wsum (wRun R (pgL P (some g) r n)) 1024) = (0 < wsum (fun s => if cn s = (pgW P (some g) n).length ∧ (!s.testBit r) = true then wF R (pgW P (some g) n) s else 0) (2 ^ R)) := by
  have pl : 2 ^ R ≤ 2 ^ 10 := Nat.pow_le_pow_right (by omega) hR
  have pl : 2 ^ R ≤ 1024 := pl
  have pg : P g ≠ 0 := fun z => by rw [z, Nat.zero_testBit] at hb; cases hb
  obtain ⟨a, b, k1, k2⟩ := pgL_mid (P := P) (g := g) (r := r) n |>.2 hg pg
  rw [wsum_pos, wsum_pos]
  have mb : ∀ k, (P g &&& 2 ^ r).testBit k = (decide (r = k) && (P g).testBit k) := by
    intro k
    rw [Nat.testBit_and, Nat.testBit_two_pow, Bool.and_comm]
  refine propext ⟨fun ⟨s, s1, s2⟩ => ?_, fun ⟨t, t1, t2⟩ => ?_⟩
  · rw [k1, w_mid b.length b rfl s s1, wrun_a, pos_step] at s2
    obtain ⟨r', h1, h2, h3, h4⟩ := s2
    rw [mb, Bool.and_eq_true, decide_eq_true_eq] at h2
    have : r' = r := h2.1.symm
    subst this
    have tl : s - 2 ^ r' < 1024 := Nat.lt_of_le_of_lt (Nat.sub_le _ _) s1
    rw [← k2] at h4
    obtain ⟨w1, w2⟩ := w_sup (R := R) _ _ rfl (s - 2 ^ r') tl h4
    refine ⟨s - 2 ^ r', w2, ?_⟩
    have nb : (s - 2 ^ r').testBit r' = false := by rw [sb s1 h3, decide_eq_false (by omega), Bool.false_and]
    rw [nb, if_pos ⟨w1, rfl⟩]
    unfold wF
    rw [w1, List.take_length]
    exact h4
  · split at t2
    · rename_i z
      obtain ⟨z1, z2⟩ := z
      rw [Bool.not_eq_true'] at z2
      obtain ⟨o1, o2, o3⟩ := or_add t1 hr (by omega) z2
      refine ⟨t + 2 ^ r, by omega, ?_⟩
      unfold wF at t2
      rw [z1, List.take_length, k2] at t2
      rw [k1, w_mid b.length b rfl _ (by omega), wrun_a, pos_step]
      refine ⟨r, hr, ?_, o3, ?_⟩
      · rw [mb, hb, decide_eq_true rfl]
        rfl
      · rw [Nat.add_sub_cancel]
        exact t2
    · cases t2
theorem bt_all : ∀ r, r < 10 → ∀ s, s < 1024 → ((Int32.ofNat s &&& Int32.ofNat (2 ^ r) = 0) ↔ s.testBit r = false) := by decide +kernel
theorem sur_up (c : Nat → Bool) {n m : Nat} (h : n ≤ m) : (surS c n).2 ≤ (surS c m).2 := by
  induction m with
  | zero => have : n = 0 := by omega
            subst this; exact Nat.le_refl _
  | succ m ih =>
    by_cases z : n = m + 1
    · rw [z]; exact Nat.le_refl _
    · have := ih (by omega)
      have e : surS c (m + 1) = if c m then (some m, (surS c m).2 + 1) else surS c m := rfl
      rw [e]
      split
      · show _ ≤ (surS c m).2 + 1
        omega
      · exact this
theorem sur_n (c : Nat → Bool) : ∀ n, ((surS c n).2 = 0 ↔ (surS c n).1 = none) ∧ ∀ x, (surS c n).1 = some x → x < n := by
  intro n
  induction n with
  | zero => exact ⟨⟨fun _ => rfl, fun _ => rfl⟩, fun x hx => (by cases hx)⟩
  | succ n ih =>
    have e : surS c (n + 1) = if c n then (some n, (surS c n).2 + 1) else surS c n := rfl
    rw [e]
    split
    · exact ⟨⟨fun z => (by cases z), fun z => (by cases z)⟩, fun x hx => (by cases hx; omega)⟩
    · exact ⟨ih.1, fun x hx => by have := ih.2 x hx; omega⟩
section CSure2
variable {N : Nat} {A : AA}
theorem c_sure (hN : 2000 ≤ N) (hA' : AOk A) (v : Int32) : CAns A A (f_X11_sure N 0 v) (ansSure A v) := by
  intro h q
  obtain ⟨b, mk, q⟩ := q
  have hR := hA'.1.1
  have hG := hA'.1.2.1
  have hP := fun g => pag_lt hA'.1 hA'.2.1 g
  unfold f_X11_sure f_X11_sure_34 ansSure
  rw [q.is11, gg_t, c_isGuest hA' q, gc_s]
  cases hi : isN v (iG (aI A)) with
  | false =>
    rw [if_pos (eBf _ rfl), Bool.false_and]
    exact ⟨h, rfl, ⟨b, mk, q⟩, Fr.rf⟩
  | true =>
  obtain ⟨g, hg, rfl⟩ := isN_t (by omega) hi
  rw [if_neg (eBt _ rfl), Bool.true_and, i_okc (by omega)]
  obtain ⟨D, d1, d2⟩ := q.2.2.2.2.2.2.1.2.2.2.2.2.1
  have d1 : At sX6 22 D h := d1
  obtain ⟨f, hA⟩ := q.2.2.2.2.2.2.2.2.2.2.2.1
  obtain ⟨E, e1, e2, _⟩ := q.2.2.2.2.1
  obtain ⟨f', D', g1, g2, g3⟩ := c_fillRow (N := N) (R := iR (aI A)) hN hR d1 (Or.inr (by omega)) hA hP d2 (w := some g) (fun x hx => by cases hx; omega)
  obtain ⟨q2, fr⟩ := q.wy (f' := f') d1 d2 g2 hA
  have A2 : Ar 0 1024 65 f' (pa 0 1024 65 f' (pt sX6 22 D' h)) := by
    refine Ar.p2 ?_
    have := hA.ln
    rw [pt_len]
    exact this
  have D2 : At sX6 22 D' (pa 0 1024 65 f' (pt sX6 22 D' h)) := (At.p2 d1 (D' := D')).fr (Fr.pa (P := fun x => x = 65) rfl) (fun x x1 x2 => by simp only [z6] at x2; omega)
  generalize hh2 : pa 0 1024 65 f' (pt sX6 22 D' h) = h2 at g1 q2 fr A2 D2
  have lK := pgW_len (sP (aS A)) (some g) 10
  have pup : pgW (sP (aS A)) (some g) 10 = pgW (sP (aS A)) (some g) (iG (aI A)) := pgW_up (n := iG (aI A)) (fun g hg => (hA'.2.1.2.2.2.2.2.1 g).2 hg) 10 hG
  have bs := fun (r : Nat) (hr : r < 10) => c_beside (N := N) hN hR A2 g3 lK (fb := Int32.ofNat (2 ^ r)) (q := fun s => !s.testBit r) (fun s hs => by
    rw [Bool.not_eq_true']
    exact propext (bt_all r hr s hs))
  have bound : ∀ r, wsum (fun s => if cn s = (pgW (sP (aS A)) (some g) 10).length ∧ (!s.testBit r) = true then wF (iR (aI A)) (pgW (sP (aS A)) (some g) 10) s else 0) (2 ^ iR (aI A)) ≤ 20000000 := by
    intro r
    refine Nat.le_trans (wsum_mono _ (g := fun s => if cn s = (pgW (sP (aS A)) (some g) 10).length ∧ true = true then wF (iR (aI A)) (pgW (sP (aS A)) (some g) 10) s else 0) (fun s _ => ?_)) (by rw [w_tot hR]; exact w_totle hR _)
    by_cases z : cn s = (pgW (sP (aS A)) (some g) 10).length
    · show (if cn s = (pgW (sP (aS A)) (some g) 10).length ∧ (!s.testBit r) = true then wF (iR (aI A)) (pgW (sP (aS A)) (some g) 10) s else 0) ≤ _
      split
      · rw [if_pos ⟨z, rfl⟩]
        exact Nat.le_refl _
      · exact Nat.zero_le _
    · rw [if_neg (fun x => z x.1), if_neg (fun x => z x.1)]
      exact Nat.le_refl _
  have can : ∀ r, r < iR (aI A) → canS A g r = ((sP (aS A) g).testBit r && decide (0 < wsum (fun s => if cn s = (pgW (sP (aS A)) (some g) 10).length ∧ (!s.testBit r) = true then wF (iR (aI A)) (pgW (sP (aS A)) (some g) 10) s else 0) (2 ^ iR (aI A)))) := by
    intro r hr
    unfold canS
    cases hb : (sP (aS A) g).testBit r with
    | false => rw [Bool.false_and, Bool.false_and]
    | true =>
      rw [Bool.true_and, Bool.true_and]
      unfold waysT
      have := sure_pos hR hg hr hb
      rw [← pup] at this
      exact decide_eq_decide.mpr (iff_of_eq this)
  have pg : oa D' 0 g = Int32.ofNat (sP (aS A) g) := by rw [g2]; exact d2 g (by omega)
  have lp : ∀ n r m, r + n = iR (aI A) → n < m → (surS (canS A g) r).2 ≤ 1 → gi (fun zk zs => f_X6_onlyRoomOf_15 N zk zs.1 zs.2.1 zs.2.2.1 zs.2.2.2.1 zs.2.2.2.2.1 zs.2.2.2.2.2.1 zs.2.2.2.2.2.2.1 zs.2.2.2.2.2.2.2) m (22, Int32.ofNat g, 65, Int32.ofNat (iR (aI A)), eO (surS (canS A g) r).1, Int32.ofNat (pgW (sP (aS A)) (some g) 10).length, Int32.ofNat r, h2) = some (if (surS (canS A g) (iR (aI A))).2 = 1 then eO (surS (canS A g) (iR (aI A))).1 else -1, h2) := by
    intro n
    induction n with
    | zero =>
      intro r m hr hm hs
      have : r = iR (aI A) := by omega
      subst this
      obtain ⟨m, rfl⟩ : ∃ k, m = k + 1 := ⟨m - 1, by omega⟩
      rw [gi_1]
      generalize hz : gi _ m = zk
      dsimp only
      unfold f_X6_onlyRoomOf_15
      rw [if_pos (of_eq_true (nleT (Nat.le_refl _) (by omega) (by omega)))]
      by_cases z : (surS (canS A g) (iR (aI A))).2 = 1
      · rw [if_pos z]
      · rw [if_neg z, (sur_n (canS A g) (iR (aI A))).1.mp (by omega)]
        rfl
    | succ n ih =>
      intro r m hr hm hs
      have n1 : ¬ Int32.ofNat (iR (aI A)) ≤ Int32.ofNat r := of_eq_false (nleF (by omega) (by omega) (by omega))
      have es : surS (canS A g) (r + 1) = if canS A g r then (some r, (surS (canS A g) r).2 + 1) else surS (canS A g) r := rfl
      have cr := can r (by omega)
      have ih2 := ih (r + 1) (m - 1) (by omega) (by omega)
      have bo : f_X11_bitOf N (Int32.ofNat (sP (aS A) g)) (Int32.ofNat r) h2 = some (eB ((sP (aS A) g).testBit r), h2) := by rw [c_bitOf, nat_in (n := 10) (hP g) (by omega)]
      have bb := bs r (by omega)
      have bd := bound r
      generalize hT : wsum (fun s => if cn s = (pgW (sP (aS A)) (some g) 10).length ∧ (!s.testBit r) = true then wF (iR (aI A)) (pgW (sP (aS A)) (some g) 10) s else 0) (2 ^ iR (aI A)) = tt at cr bb bd
      obtain ⟨m, rfl⟩ : ∃ k, m = k + 1 := ⟨m - 1, by omega⟩
      rw [gi_1]
      generalize hz : gi _ m = zk
      dsimp only
      rw [show m + 1 - 1 = m by omega, hz] at ih2
      unfold f_X6_onlyRoomOf_15 f_X6_onlyRoomOf_62
      rw [if_neg n1, D2.gR (k := 0) rfl rfl, gb_s, D2.aI (j := 0) rfl (ixn (by omega) (by omega)), gb_s, i_okc (by omega), pg, bo, gc_s]
      cases hb : (sP (aS A) g).testBit r with
      | false =>
        rw [hb, Bool.false_and] at cr
        rw [cr] at es
        have es : surS (canS A g) (r + 1) = surS (canS A g) r := es
        rw [es] at ih2
        have c0 : ¬ eB false = 1 := by decide
        rw [if_neg c0, gl_s, n_add1]
        exact ih2 hs
      | true =>
        rw [hb, Bool.true_and] at cr
        have c1 : eB true = 1 := by decide
        rw [if_pos c1, shl1 r (by omega), bb, gc_s]
        by_cases z : 0 < tt
        · rw [decide_eq_true z] at cr
          rw [cr, if_pos rfl] at es
          have n2 : ¬ Int32.ofNat tt ≤ (0 : Int32) := of_eq_false (nleF (b := 0) (by omega) (by omega) (by omega))
          rw [if_neg n2]
          by_cases y : (surS (canS A g) r).2 = 0
          · have yn := (sur_n (canS A g) r).1.mp y
            have c2 : eO (surS (canS A g) r).1 = -1 := by rw [yn]; rfl
            rw [if_pos c2, gl_s, n_add1]
            rw [es] at ih2
            exact ih2 (by show (surS (canS A g) r).2 + 1 ≤ 1; omega)
          · have c2 : ¬ eO (surS (canS A g) r).1 = -1 := by
              cases hx : (surS (canS A g) r).1 with
              | none => exact absurd ((sur_n (canS A g) r).1.mpr hx) y
              | some x =>
                have := (sur_n (canS A g) r).2 x hx
                intro w
                have w := congrArg Int32.toInt w
                rw [eO_s, i_ok (by omega)] at w
                have t : (-1 : Int32).toInt = -1 := by decide
                rw [t] at w
                omega
            have up := sur_up (canS A g) (n := r + 1) (m := iR (aI A)) (by omega)
            rw [es] at up
            have up : (surS (canS A g) r).2 + 1 ≤ _ := up
            rw [if_neg c2, if_neg (by omega)]
        · rw [decide_eq_false z] at cr
          rw [cr] at es
          have es : surS (canS A g) (r + 1) = surS (canS A g) r := es
          rw [es] at ih2
          have n2 : Int32.ofNat tt ≤ (0 : Int32) := of_eq_true (nleT (b := 0) (by omega) (by omega) (by omega))
          rw [if_pos n2, gl_s, n_add1]
          exact ih2 hs
  have fin := lp (iR (aI A)) 0 N (by omega) (by omega) (by show 0 ≤ 1; omega)
  have fin : gi (fun zk zs => f_X6_onlyRoomOf_15 N zk zs.1 zs.2.1 zs.2.2.1 zs.2.2.2.1 zs.2.2.2.2.1 zs.2.2.2.2.2.1 zs.2.2.2.2.2.2.1 zs.2.2.2.2.2.2.2) N (22, Int32.ofNat g, 65, Int32.ofNat (iR (aI A)), -1, Int32.ofNat (pgW (sP (aS A)) (some g) 10).length, 0, h2) = _ := fin
  refine ⟨h2, ?_, ⟨b, mk, q2⟩, fr⟩
  unfold f_X6_onlyRoomOf
  have g1 : f_X6_fillRow N 22 65 (Int32.ofNat (iR (aI A))) (Int32.ofNat g) h = _ := g1
  rw [q.stt, gb_s, q.2.2.2.2.2.2.1.1.e.2.2.2.2.2.2.1, gb_s, q.e11.2.2.2.2.2.2.2.2.2.1, gb_s, q.cur, gb_s, e1.gI (k := 0) rfl rfl, gb_s, e2.2.1, d1.is rfl, gg_t, gg_t, g1, gc_s, fin, gc_s]
  by_cases z : sP (aS A) g = 0
  · have : (surS (canS A g) (iR (aI A))).2 = 0 := by
      have : ∀ n, (surS (canS A g) n).2 = 0 := by
        intro n
        induction n with
        | zero => rfl
        | succ n ih =>
          have e : surS (canS A g) (n + 1) = if canS A g n then (some n, (surS (canS A g) n).2 + 1) else surS (canS A g) n := rfl
          have c0 : canS A g n = false := by
            unfold canS
            rw [z, Nat.zero_testBit, Bool.false_and]
          rw [e, c0]
          exact ih
      exact this _
    have n1 : ¬ (surS (canS A g) (iR (aI A))).2 = 1 := by omega
    rw [if_neg n1, if_neg (by simp [z])]
  · rw [decide_eq_true z, if_pos rfl]
end CSure2

