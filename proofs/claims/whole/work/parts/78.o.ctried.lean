/-! The component: tried, best -/
theorem hE_run {I : IA} (rl : Ev → Option Nat) : ∀ (es : List Ev) (ins : Nat → Bool) (n : Nat) (H : HA), evG I ins n es → (∀ g, hE H g = true → g < iG I) → ∀ g, hE (es.foldl (evS I rl) H) g = true → g < iG I := by
  intro es
  induction es with
  | nil => intro ins n H _ h; exact h
  | cons e es ih =>
    intro ins n H hG h
    refine ih _ _ (evS I rl H e) hG.2 ?_
    intro g hg
    unfold evS at hg
    split at hg
    · rw [hE_leave] at hg
      exact h g hg
    · rw [hE_come, fu_at] at hg
      split at hg
      · rename_i z
        rw [z]
        exact hG.1.1
      · exact h g hg
theorem lst_far {H : HA} (hb : ∀ g, hM H g < 100000000) : ∀ n, lstS H n = 100000000 → mstS H n = 0 := by
  intro n
  induction n with
  | zero => intro _; rfl
  | succ n ih =>
    intro h
    have e1 : lstS H (n + 1) = if hE H n = true ∧ hM H n < lstS H n then hM H n else lstS H n := rfl
    have e2 : mstS H (n + 1) = if hE H n = true ∧ mstS H n < hM H n then hM H n else mstS H n := rfl
    rw [e1] at h
    have hn := hb n
    by_cases c : hE H n = true ∧ hM H n < lstS H n
    · rw [if_pos c] at h
      omega
    · rw [if_neg c] at h
      have hE0 : ¬ hE H n = true := fun z => c ⟨z, by omega⟩
      rw [e2, if_neg (fun z => hE0 z.1)]
      exact ih h
theorem lst_up {H : HA} {n : Nat} (hz : ∀ g, n ≤ g → hE H g = false) : ∀ m, n ≤ m → lstS H m = lstS H n ∧ mstS H m = mstS H n := by
  intro m
  induction m with
  | zero => intro h; have : n = 0 := by omega
            subst this; exact ⟨rfl, rfl⟩
  | succ m ih =>
    intro h
    rcases Nat.lt_or_ge n (m + 1) with w | w
    · have e1 : lstS H (m + 1) = if hE H m = true ∧ hM H m < lstS H m then hM H m else lstS H m := rfl
      have e2 : mstS H (m + 1) = if hE H m = true ∧ mstS H m < hM H m then hM H m else mstS H m := rfl
      have z := hz m (by omega)
      have z' : ¬ hE H m = true := by rw [z]; decide
      rw [e1, e2, if_neg (fun y => z' y.1), if_neg (fun y => z' y.1)]
      exact ih (by omega)
    · have : n = m + 1 := by omega
      subst this
      exact ⟨rfl, rfl⟩
section CTried
variable {N : Nat} {A : AA}
theorem c_spread {I : IA} {H : HA} {D : OD} {h : PH} {p : Nat} (hN : 2000 ≤ N) (d1 : At sX1 p D h) (d2 : RepH I H D) (hI : IOk I) (hb : ∀ g, hM H g ≤ 1000) (hz : ∀ g, hE H g = true → g < iG I) : f_X1_spreadOfMoves N p h = some (aprS I H, h) := by
  have i2 := hI.2.1
  have lf := lst_far (H := H) (fun g => by have := hb g; omega)
  have lp : ∀ n k m, k + n = 10 → n < m → gi (fun zk zs => f_X1_spreadOfMoves_6 N zk zs.1 zs.2.1 zs.2.2.1 zs.2.2.2.1 zs.2.2.2.2) m (p, (if lstS H k = 100000000 then -1 else Int32.ofNat (mstS H k)), (if lstS H k = 100000000 then -1 else Int32.ofNat (lstS H k)), Int32.ofNat k, h) = some ((if lstS H 10 = 100000000 then 0 else Int32.ofNat (mstS H 10) - Int32.ofNat (lstS H 10)), h) := by
    intro n
    induction n with
    | zero =>
      intro k m hk hm
      have : k = 10 := by omega
      subst this
      obtain ⟨m, rfl⟩ : ∃ j, m = j + 1 := ⟨m - 1, by omega⟩
      rw [gi_1]
      dsimp only
      unfold f_X1_spreadOfMoves_6
      rw [if_pos (by decide)]
      by_cases c : lstS H 10 = 100000000
      · rw [if_pos c, if_pos c, if_pos c]
        rfl
      · rw [if_neg c, if_neg c, if_neg c]
    | succ n ih =>
      intro k m hk hm
      obtain ⟨m, rfl⟩ : ∃ j, m = j + 1 := ⟨m - 1, by omega⟩
      have ih2 := ih (k + 1) m (by omega) (by omega)
      have e1 : lstS H (k + 1) = if hE H k = true ∧ hM H k < lstS H k then hM H k else lstS H k := rfl
      have e2 : mstS H (k + 1) = if hE H k = true ∧ mstS H k < hM H k then hM H k else mstS H k := rfl
      have hk0 := hb k
      have ll := lst_le H k
      have ml := mst_le hb k
      rw [gi_1]
      generalize hz : gi _ m = zk at ih2
      dsimp only
      unfold f_X1_spreadOfMoves_6 f_X1_spreadOfMoves_59 f_X1_spreadOfMoves_60
      have c10 : ¬ (10 : Int32) ≤ Int32.ofNat k := of_eq_false (nleF (a := 10) (by omega) (by omega) (by omega))
      rw [if_neg c10, d1.gI (k := 9) rfl rfl, gb_s, d2.2.2, c_bit (by omega), gc_s, decide_eq_true (show k < 10 by omega), Bool.true_and]
      have i1 : ixok (Int32.ofNat k) 10 := ixn (by omega) (by omega)
      have mv := d2.1.2.2.1 k (by omega)
      cases he : hE H k with
      | false =>
        have n1 : ¬ hE H k = true := by rw [he]; decide
        have f0 : ¬ eB false = 1 := by decide
        have e1' : lstS H (k + 1) = lstS H k := by rw [e1, if_neg (fun y => n1 y.1)]
        have e2' : mstS H (k + 1) = mstS H k := by rw [e2, if_neg (fun y => n1 y.1)]
        rw [e1', e2'] at ih2
        rw [if_neg f0, gl_s, n_add1]
        exact ih2
      | true =>
        have t1 : eB true = 1 := rfl
        rw [if_pos t1, d1.gR (k := 2) rfl rfl, gb_s, d1.aI (j := 2) rfl i1, gb_s, i_okc (by omega), mv, gl_s]
        by_cases c : lstS H k = 100000000
        · have m0 := lf k c
          have c1 : hE H k = true ∧ hM H k < lstS H k := ⟨he, by omega⟩
          have e3 : mstS H (k + 1) = hM H k := by
            rw [e2, m0]
            by_cases y : 0 < hM H k
            · rw [if_pos ⟨he, y⟩]
            · rw [if_neg (fun z => y z.2)]
              omega
          rw [e1, if_pos c1, e3] at ih2
          have c2 : ¬ hM H k = 100000000 := by omega
          rw [if_neg c2] at ih2
          rw [if_pos c, if_pos c, if_pos rfl, gb_s, d1.aI (j := 2) rfl i1, gb_s, i_okc (by omega), mv, gl_s, n_add1]
          have gm : gmax (-1) (Int32.ofNat (hM H k)) = Int32.ofNat (hM H k) := by
            unfold gmax
            rw [if_pos]
            rw [i_lt, i_ok (by omega)]
            have : (-1 : Int32).toInt = -1 := by decide
            omega
          rw [gm]
          exact ih2
        · have c2 : ¬ Int32.ofNat (lstS H k) = -1 := by rw [n_m1 (by omega)]; exact id
          have cc : ¬ lstS H (k + 1) = 100000000 := by
            rw [e1]
            split <;> omega
          rw [if_neg cc, if_neg cc, e1, e2] at ih2
          have g1 : (if hE H k = true ∧ hM H k < lstS H k then hM H k else lstS H k) = if hM H k < lstS H k then hM H k else lstS H k := by
            by_cases y : hM H k < lstS H k
            · rw [if_pos ⟨he, y⟩, if_pos y]
            · rw [if_neg (fun z => y z.2), if_neg y]
          have g2 : (if hE H k = true ∧ mstS H k < hM H k then hM H k else mstS H k) = if mstS H k < hM H k then hM H k else mstS H k := by
            by_cases y : mstS H k < hM H k
            · rw [if_pos ⟨he, y⟩, if_pos y]
            · rw [if_neg (fun z => y z.2), if_neg y]
          rw [g1, g2] at ih2
          rw [if_neg c, if_neg c, if_neg c2, gb_s, d1.aI (j := 2) rfl i1, gb_s, i_okc (by omega), mv, gl_s, n_add1, gmax_n (by omega) (by omega), gmin_n (by omega) (by omega)]
          exact ih2
  have := lp 10 0 N (by omega) (by omega)
  obtain ⟨u1, u2⟩ := lst_up (H := H) (n := iG I) (fun g hg => by
    cases y : hE H g with
    | false => rfl
    | true => have := hz g y; omega) 10 i2
  unfold aprS
  rw [← u1, ← u2]
  exact this
theorem RC.tria {b : Bool} {mk : Nat → Option Nat} {h : PH} (r : RC A b mk h) {i : Nat} (hi : i ≤ iK (aI A)) (h5 : i < 5) : ∃ D, At sX1 (7 + 22 + 5 * i) D h ∧ RepH (aI A) (trH A (rlI i)) D := by
  obtain ⟨D, a, c⟩ := r.2.2.2.2.2.2.1.2.2.2.2.2.2.2 i h5
  exact ⟨D, a, c hi⟩
theorem trH_b (hA' : AOk A) (rule : Option Nat) : (∀ g, hM (trH A rule) g ≤ 1000) ∧ ∀ g, hE (trH A rule) g = true → g < iG (aI A) := by
  have h1 := mv_run hA'.1 (fun _ => rule) hA'.2.1.2.2.1
  have h2 := (replay_fit hA'.1 (fun _ => rule) hA'.2.1.2.2.1).2
  have h3 := hA'.2.1.2.1
  refine ⟨fun g => ?_, hE_run (fun _ => rule) (sE (aS A)) _ _ h0S hA'.2.1.2.2.1 (fun g hg => by cases hg)⟩
  have := h1 g
  unfold trH
  omega
theorem c_tried15 (hN : 2000 ≤ N) (hA' : AOk A) {b : Bool} {mk : Nat → Option Nat} {h : PH} (q : RC A b mk h) {i : Nat} (hi : i ≤ iK (aI A)) (w : Int32) : f_X11_tried_15 N 0 (eO (rlI i)) w h = some (if w = 0 then Int32.ofNat (hsT (trH A (rlI i))) else if w = 1 then Int32.ofNat (hsP (trH A (rlI i))) else if w = 2 then aprS (aI A) (trH A (rlI i)) else -1, h) := by
  have b3 := hA'.1.2.2.1
  obtain ⟨D, d1, d2⟩ := q.tria hi (by omega)
  obtain ⟨t1, t2⟩ := trH_b hA' (rlI i)
  unfold f_X11_tried_15
  rw [q.stt, gb_s, q.e9.1, gg_t, c_trialOf q.2.2.2.2.2.2.1.1 q.2.2.2.2.2.2.1.2.2.1 (by omega), gc_s]
  by_cases c0 : w = 0
  · rw [if_pos c0, if_pos c0, d1.gI (k := 4) rfl rfl, gb_s, d2.1.2.2.2.2.1]
  rw [if_neg c0, if_neg c0]
  by_cases c1 : w = 1
  · rw [if_pos c1, if_pos c1, d1.gI (k := 5) rfl rfl, gb_s, d2.1.2.2.2.2.2.1]
  rw [if_neg c1, if_neg c1]
  by_cases c2 : w = 2
  · rw [if_pos c2, if_pos c2, d1.is rfl, gg_t, c_spread hN d1 d2 hA'.1 t1 t2, gc_s]
  rw [if_neg c2, if_neg c2]
theorem c_tried (hN : 2000 ≤ N) (hA' : AOk A) (r w : Int32) : CAns A A (f_X11_tried N 0 r w) (ansTried A r w) := by
  refine CAns.ro (fun h q => ?_)
  obtain ⟨b, mk, q⟩ := q
  have b3 := hA'.1.2.2.1
  unfold f_X11_tried ansTried ruleOf
  by_cases z : r = -1
  · rw [if_pos z, if_pos z, z]
    exact c_tried15 hN hA' q (i := 0) (by omega) w
  · rw [if_neg z, if_neg z, q.is11, gg_t, c_isRule hA' q, gc_s]
    cases z1 : isN r (iK (aI A)) with
    | false => rw [if_pos (eBf _ rfl)]; rfl
    | true =>
      obtain ⟨k, hk, rfl⟩ := isN_t (by omega) z1
      rw [if_neg (eBt _ rfl), if_pos rfl, i_okc (by omega)]
      exact c_tried15 hN hA' q (i := k + 1) (by omega) w
theorem bst_val : ∀ n k, (bstS A n).1 = some k → (bstS A n).2.1 = Int32.ofNat (hsT (trH A (some k))) ∧ (bstS A n).2.2 = Int32.ofNat (hsP (trH A (some k))) := by
  intro n
  induction n with
  | zero => intro k h; cases h
  | succ n ih =>
    intro k h
    unfold bstS at h ⊢
    split at h
    · rename_i c
      rw [if_pos c]
      cases h
      exact ⟨rfl, rfl⟩
    · rename_i c
      rw [if_neg c]
      exact ih k h
theorem c_best (hN : 2000 ≤ N) (hA' : AOk A) : CAns A A (f_X11_best N 0) (eO (bstS A (iK (aI A))).1) := by
  refine CAns.ro (fun h q => ?_)
  obtain ⟨b, mk, q⟩ := q
  have b3 := hA'.1.2.2.1
  obtain ⟨E, e1, e2⟩ := q.innR
  have tro := fun {i : Nat} (hi : i < 5) => c_trialOf (N := N) q.2.2.2.2.2.2.1.1 q.2.2.2.2.2.2.1.2.2.1 hi
  have lp : ∀ n k m, k + n = iK (aI A) → n < m → gi (fun zk zs => f_X11_best_4 N zk zs.1 zs.2.1 zs.2.2.1 zs.2.2.2) m (0, eO (bstS A k).1, Int32.ofNat k, h) = some (eO (bstS A (iK (aI A))).1, h) := by
    intro n
    induction n with
    | zero =>
      intro k m hk hm
      have : k = iK (aI A) := by omega
      subst this
      obtain ⟨m, rfl⟩ : ∃ j, m = j + 1 := ⟨m - 1, by omega⟩
      rw [gi_1]
      dsimp only
      unfold f_X11_best_4
      rw [q.cur, gb_s, e1.gI (k := 2) rfl rfl, gb_s, e2.2.2.2.1, if_pos (of_eq_true (nleT (Nat.le_refl _) (by omega) (by omega)))]
    | succ n ih =>
      intro k m hk hm
      obtain ⟨m, rfl⟩ : ∃ j, m = j + 1 := ⟨m - 1, by omega⟩
      have ih2 := ih (k + 1) m (by omega) (by omega)
      rw [gi_1]
      generalize hz : gi _ m = zk at ih2
      dsimp only
      unfold f_X11_best_4 f_X11_best_42 f_X11_best_44
      have eb : bstS A (k + 1) = if (bstS A k).1 = none ∨ Int32.ofNat (hsT (trH A (some k))) < (bstS A k).2.1 ∨ (Int32.ofNat (hsT (trH A (some k))) = (bstS A k).2.1 ∧ Int32.ofNat (hsP (trH A (some k))) < (bstS A k).2.2) then (some k, Int32.ofNat (hsT (trH A (some k))), Int32.ofNat (hsP (trH A (some k)))) else bstS A k := rfl
      rw [q.cur, gb_s, e1.gI (k := 2) rfl rfl, gb_s, e2.2.2.2.1, if_neg (of_eq_false (nleF (by omega) (by omega) (by omega)))]
      cases hb : (bstS A k).1 with
      | none =>
        rw [if_pos (Or.inl hb)] at eb
        rw [eb] at ih2
        rw [eO_n, if_pos rfl, gl_s, n_add1]
        exact ih2
      | some j =>
        have jl := bst_lt k j hb
        obtain ⟨v1, v2⟩ := bst_val k j hb
        rw [hb, v1, v2] at eb
        obtain ⟨D, d1, d2⟩ := q.tria (i := k + 1) (by omega) (by omega)
        obtain ⟨D', f1, f2⟩ := q.tria (i := j + 1) (by omega) (by omega)
        have tk : f_X9_trialOf N 7 (Int32.ofNat k) h = some (7 + 22 + 5 * (k + 1), h) := tro (i := k + 1) (by omega)
        have tj : f_X9_trialOf N 7 (Int32.ofNat j) h = some (7 + 22 + 5 * (j + 1), h) := tro (i := j + 1) (by omega)
        have s1 := d2.1.2.2.2.2.1
        have s2 := d2.1.2.2.2.2.2.1
        have s3 := f2.1.2.2.2.2.1
        have s4 := f2.1.2.2.2.2.2.1
        rw [eO_s, if_neg (by rw [n_m1 (by omega)]; exact id), q.stt, gb_s, q.e9.1, gg_t, tk, gc_s, q.stt, gb_s, q.e9.1, gg_t, tj, gc_s, d1.is rfl, gg_t]
        unfold f_X1_isBetterThan f_X1_isBetterThan_33 f_X1_isBetterThan_37 f_X1_isBetterThan_38
        rw [d1.gI (k := 4) rfl rfl, gb_s, f1.gI (k := 4) rfl rfl, gb_s, s1, s3, gzb0, gzb1, gg_t, gg_t, gb_s, gb_s, d1.gI (k := 5) rfl rfl, gb_s, f1.gI (k := 5) rfl rfl, gb_s, s2, s4]
        have s1' : trH A (rlI (k + 1)) = trH A (some k) := rfl
        have s3' : trH A (rlI (j + 1)) = trH A (some j) := rfl
        rw [s1', s3']
        have o0 : ∀ {α : Type} (y z : α), (if (0 : Int32) = 0 then y else z) = y := fun y z => if_pos rfl
        have o1 : ∀ {α : Type} (y z : α), (if (1 : Int32) = 0 then y else z) = z := fun y z => if_neg (by decide)
        have keep : bstS A (k + 1) = bstS A k → zk (0, Int32.ofNat j, Int32.ofNat (k + 1), h) = some (eO (bstS A (iK (aI A))).1, h) := fun e => by
          rw [e, hb] at ih2
          exact ih2
        have take : bstS A (k + 1) = (some k, Int32.ofNat (hsT (trH A (some k))), Int32.ofNat (hsP (trH A (some k)))) → zk (0, Int32.ofNat k, Int32.ofNat (k + 1), h) = some (eO (bstS A (iK (aI A))).1, h) := fun e => by
          rw [e] at ih2
          exact ih2
        by_cases c1 : Int32.ofNat (hsT (trH A (some k))) < Int32.ofNat (hsT (trH A (some j)))
        · rw [if_pos (Or.inr (Or.inl c1))] at eb
          rw [if_pos c1, gc_s, o1, gl_s, n_add1]
          exact take eb
        · rw [if_neg c1]
          by_cases c2 : Int32.ofNat (hsT (trH A (some k))) = Int32.ofNat (hsT (trH A (some j)))
          · rw [if_pos c2]
            by_cases c3 : Int32.ofNat (hsP (trH A (some j))) ≤ Int32.ofNat (hsP (trH A (some k)))
            · rw [if_neg (by
                rintro (y | y | y)
                · cases y
                · exact c1 y
                · have := y.2
                  rw [i_lt] at this
                  rw [i_le] at c3
                  omega)] at eb
              rw [if_pos c3, gc_s, o0, gl_s, n_add1]
              exact keep eb
            · rw [if_pos (Or.inr (Or.inr ⟨c2, by rw [i_le] at c3; rw [i_lt]; omega⟩))] at eb
              rw [if_neg c3, gc_s, o1, gl_s, n_add1]
              exact take eb
          · rw [if_neg (by
              rintro (y | y | y)
              · cases y
              · exact c1 y
              · exact c2 y.1)] at eb
            rw [if_neg c2, gc_s, o0, gl_s, n_add1]
            exact keep eb
  exact lp (iK (aI A)) 0 N (by omega) (by omega)
end CTried

