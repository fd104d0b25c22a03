/-! The component: come, leave, gives -/
theorem rep_some {I : IA} {ins : Nat → Bool} {n : Nat} {H : HA} (hF : Fit I ins n H) (g : Nat) : (roomS I H g).isSome = ins g := by
  have := fit_room hF g
  cases q : roomS I H g with
  | none => rw [this.mp q]; rfl
  | some x =>
    cases q2 : ins g with
    | true => rfl
    | false => rw [this.mpr q2] at q; cases q
theorem lastM_a (es : List Ev) (e : Ev) : lastM (es ++ [e]) = e.2.2.1 := by
  unfold lastM
  rw [List.getLast?_append]
  rfl
section CTell
variable {N : Nat} {h : PH} {A : AA} {b : Bool} {mk : Nat → Option Nat}
theorem c_why (hA' : AOk A) (r : RC A b mk h) (g m : Int32) (lv : Bool) : f_X11_whyRefused N 0 g m (eB (!lv)) h = some (Int32.ofNat (whyS A g m lv), h) := by
  obtain ⟨E, e1, e2⟩ := r.innR
  obtain ⟨D, d1, d2⟩ := r.hous
  have fit := hA_fit hA'
  have b1 := hA'.1.1
  have b2 := hA'.1.2.1
  have ll : lastM (sE (aS A)) ≤ 99999 := lastM_le hA'.2.1.2.2.1
  have le := hA'.2.1.2.1
  unfold f_X11_whyRefused f_X11_whyRefused_18 f_X11_whyRefused_38 f_X11_whyRefused_83 f_X11_whyRefused_100 whyS
  rw [r.is11, gg_t, c_isGuest hA' r, gc_s]
  cases z1 : isN g (iG (aI A)) with
  | false =>
    rw [if_pos (eBf _ rfl), if_pos (Or.inl rfl)]
    rfl
  | true =>
    obtain ⟨x, hx, rfl⟩ := isN_t (by omega) z1
    rw [if_neg (eBt _ rfl), r.cur, gb_s, e1.gI (k := 0) rfl rfl, gb_s, e2.2.1]
    by_cases z2 : iR (aI A) = 0
    · rw [if_pos (by rw [z2]; rfl), if_pos (Or.inr z2)]
      rfl
    · have n2 : ¬ Int32.ofNat (iR (aI A)) = 0 := of_eq_false (neqF (b := 0) z2 (by omega) (by omega))
      rw [if_neg n2, if_neg (by rintro (y | y); cases y; exact z2 y), c_isTold, gc_s]
      cases z3 : isN m 100000 with
      | false =>
        rw [if_pos (eBf _ rfl), if_pos (Or.inl rfl)]
        rfl
      | true =>
        obtain ⟨y, hy, rfl⟩ := isN_t (by omega) z3
        rw [if_neg (eBt _ rfl), r.stt, gb_s, r.e9.2.2.2.2.2.2.2.2.2.2.1, gb_s]
        by_cases z4 : lastM (sE (aS A)) ≤ y
        · have c2 : ¬ (true = false ∨ Int32.ofNat y < Int32.ofNat (lastM (sE (aS A)))) := by
            rintro (w | w)
            · cases w
            · rw [n_lt (by omega) (by omega)] at w
              omega
          rw [if_pos (of_eq_true (nleT z4 (by omega) (by omega))), if_neg c2, gb_s, r.e9.2.2.1, gb_s, d1.is rfl, gg_t, c_isIn d1 d2 hA'.1 (by omega), gc_s, rep_some fit, i_okc (by omega)]
          by_cases z5 : insS (sE (aS A)) x = lv
          · have n5 : ¬ eB (insS (sE (aS A)) x) = eB (!lv) := by rw [z5]; cases lv <;> decide
            rw [if_neg n5, if_neg (not_not_intro z5)]
            cases lv with
            | true =>
              have t0 : eB (!true) = 0 := rfl
              have c4 : ¬ (true = false ∧ iR (aI A) ≤ nInS (sE (aS A))) := fun w => by cases w.1
              rw [t0, if_pos rfl, r.stt, gb_s, r.e9.2.2.2.2.2.2.2.2.2.2.2, gb_s, if_neg c4]
              by_cases z6 : 100 ≤ (sE (aS A)).length
              · have n6 : ¬ Int32.ofNat (sE (aS A)).length < 100 := of_eq_false (nltF (b := 100) (by omega) (by omega) (by omega))
                rw [if_neg n6, if_pos z6]
                rfl
              · have n6 : Int32.ofNat (sE (aS A)).length < 100 := of_eq_true (nltT (b := 100) (by omega) (by omega) (by omega))
                rw [if_pos n6, if_neg z6]
                rfl
            | false =>
              have t1 : ¬ eB (!false) = 0 := by decide
              rw [if_neg t1, r.stt, gb_s, r.e9.2.2.1, gb_s, d1.is rfl, gg_t]
              unfold f_X1_guestsIn
              rw [d1.gI (k := 8) rfl rfl, gb_s, gc_s, d2.2.1, fit.2.2, r.cur, gb_s, e1.gI (k := 0) rfl rfl, gb_s, e2.2.1]
              have nl : nInS (sE (aS A)) ≤ iR (aI A) := by rw [← fit.2.2]; exact occN_le _ _
              by_cases z7 : iR (aI A) ≤ nInS (sE (aS A))
              · rw [if_neg (of_eq_false (nltF (by omega) (by omega) (by omega))), if_pos ⟨rfl, z7⟩]
                rfl
              · have c4 : ¬ (false = false ∧ iR (aI A) ≤ nInS (sE (aS A))) := fun w => z7 w.2
                rw [if_pos (of_eq_true (nltT (by omega) (by omega) (by omega))), r.stt, gb_s, r.e9.2.2.2.2.2.2.2.2.2.2.2, gb_s, if_neg c4]
                by_cases z6 : 100 ≤ (sE (aS A)).length
                · have n6 : ¬ Int32.ofNat (sE (aS A)).length < 100 := of_eq_false (nltF (b := 100) (by omega) (by omega) (by omega))
                  rw [if_neg n6, if_pos z6]
                  rfl
                · have n6 : Int32.ofNat (sE (aS A)).length < 100 := of_eq_true (nltT (b := 100) (by omega) (by omega) (by omega))
                  rw [if_pos n6, if_neg z6]
                  rfl
          · have n5 : eB (insS (sE (aS A)) x) = eB (!lv) := by
              cases q : insS (sE (aS A)) x with
              | true =>
                cases lv with
                | true => exact absurd q z5
                | false => rfl
              | false =>
                cases lv with
                | true => rfl
                | false => exact absurd q z5
            rw [if_pos n5, if_pos z5]
            rfl
        · have c2 : true = false ∨ Int32.ofNat y < Int32.ofNat (lastM (sE (aS A))) := Or.inr (by rw [n_lt (by omega) (by omega)]; omega)
          rw [if_neg (of_eq_false (nleF z4 (by omega) (by omega))), if_pos c2]
          rfl
/-- a trial house is at its place -/
theorem rTr.at {q : Nat} (t : rTr q h) {i : Nat} (hi : i < 5) : arR 4 (q + 6) (Int32.ofNat i) h = some (q + 22 + 5 * i) := by
  obtain ⟨f, a, c⟩ := t
  unfold arR arQ
  rw [a]
  show (match (if (4 : Nat) = 4 ∧ ¬ (Int32.ofNat i < 0 ∨ 5 ≤ (Int32.ofNat i).toNatClampNeg) then some (f (Int32.ofNat i).toNatClampNeg) else none) with
    | some (some k) => some k
    | _ => none) = _
  rw [if_pos ⟨rfl, ixn hi (by omega)⟩, i_okc (by omega), c i hi]
theorem c_trialOf {S : SA} {q : Nat} (t : r9 S q h) (t2 : rTr q h) {i : Nat} (hi : i < 5) : f_X9_trialOf N q (eO (rlI i)) h = some (q + 22 + 5 * i, h) := by
  unfold f_X9_trialOf
  have e : eO (rlI i) + 1 = Int32.ofNat i := by
    cases i with
    | zero => decide
    | succ k => exact n_add1 k
  rw [t.e.2.2.2.1, gb_s, e, t2.at hi, gb_s]
end CTell

