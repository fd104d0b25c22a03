/-! The component's face: the plain questions -/
section CFace
variable {N : Nat} {h : PH} {A : AA} {b : Bool} {mk : Nat → Option Nat}
theorem RC.e11 (r : RC A b mk h) : gIs 11 0 h = true ∧ gfR 11 0 0 h = some 1 ∧ gfR 11 1 0 h = some 3 ∧ gfR 11 2 0 h = some 4 ∧ gfR 11 3 0 h = some 7 ∧ gfR 11 4 0 h = some 54 ∧ gfR 11 5 0 h = some 55 ∧ gfR 11 6 0 h = some 59 ∧ gfR 11 7 0 h = some 64 ∧ gfR 11 8 0 h = some 65 ∧ gfR 11 9 0 h = some (cu b) ∧ gfR 11 10 0 h = some (cu (!b)) := by
  obtain ⟨D, a, ⟨b0, b1, b2, b3, b4, b5, b6, b7, b8, b9, b10⟩, _⟩ := r.1
  exact ⟨a.is rfl, a.gV rfl rfl b0, a.gV rfl rfl b1, a.gV rfl rfl b2, a.gV rfl rfl b3, a.gV rfl rfl b4, a.gV rfl rfl b5, a.gV rfl rfl b6, a.gV rfl rfl b7, a.gV rfl rfl b8, a.gV rfl rfl b9, a.gV rfl rfl b10⟩
theorem RC.is11 (r : RC A b mk h) : gIs 11 0 h = true := r.e11.1
theorem RC.stt (r : RC A b mk h) : gfR 11 3 0 h = some 7 := r.e11.2.2.2.2.1
theorem RC.cur (r : RC A b mk h) : gfR 11 9 0 h = some (cu b) := r.e11.2.2.2.2.2.2.2.2.2.2.1
theorem RC.mach (r : RC A b mk h) : gfR 11 2 0 h = some 4 := r.e11.2.2.2.1
theorem r9.e {S : SA} {q : Nat} (r : r9 S q h) : gIs 9 q h = true ∧ gfR 9 0 q h = some 4 ∧ gfR 9 1 q h = some (q + 1) ∧ gfR 9 2 q h = some (q + 6) ∧ gfR 9 3 q h = some (q + 7) ∧ gfR 9 4 q h = some (q + 9) ∧ gfR 9 5 q h = some (q + 15) ∧ gfR 9 6 q h = some (q + 18) ∧ gfI 9 7 q h = some (Int32.ofNat (msk (fun g => (sB S).contains g) 10)) ∧ gfI 9 8 q h = some (eO (sR S)) ∧ gfI 9 9 q h = some (Int32.ofNat (lastM (sE S))) ∧ gfI 9 10 q h = some (Int32.ofNat (sE S).length) := by
  obtain ⟨D, a, ⟨b0, b1, b2, b3, b4, b5, b6⟩, c7, c8, c9, c10⟩ := r
  exact ⟨a.is rfl, a.gV rfl rfl b0, a.gV rfl rfl b1, a.gV rfl rfl b2, a.gV rfl rfl b3, a.gV rfl rfl b4, a.gV rfl rfl b5, a.gV rfl rfl b6, by rw [a.gI (k := 7) rfl rfl, c7], by rw [a.gI (k := 8) rfl rfl, c8], by rw [a.gI (k := 9) rfl rfl, c9], by rw [a.gI (k := 10) rfl rfl, c10]⟩
theorem RC.e9 (r : RC A b mk h) : gIs 9 7 h = true ∧ gfR 9 0 7 h = some 4 ∧ gfR 9 1 7 h = some 8 ∧ gfR 9 2 7 h = some 13 ∧ gfR 9 3 7 h = some 14 ∧ gfR 9 4 7 h = some 16 ∧ gfR 9 5 7 h = some 22 ∧ gfR 9 6 7 h = some 25 ∧ gfI 9 7 7 h = some (Int32.ofNat (msk (fun g => (sB (aS A)).contains g) 10)) ∧ gfI 9 8 7 h = some (eO (sR (aS A))) ∧ gfI 9 9 7 h = some (Int32.ofNat (lastM (sE (aS A)))) ∧ gfI 9 10 7 h = some (Int32.ofNat (sE (aS A)).length) := r.2.2.2.2.2.2.1.1.e
theorem RC.hous (r : RC A b mk h) : ∃ D, At sX1 8 D h ∧ RepH (aI A) (hA A) D := r.2.2.2.2.2.2.1.2.1
theorem RC.innR (r : RC A b mk h) : ∃ E, At sX2 (cu b) E h ∧ RepIC (aI A) E := by
  obtain ⟨E, a, b, c⟩ := r.2.2.2.2.1
  exact ⟨E, a, b⟩
theorem c_isN {n : Nat} {v : Int32} (hn : n ≤ 10) {F : Option (Int32 × PH)} (hF : F = if v < 0 then some (0, h) else if Int32.ofNat n ≤ v then some (0, h) else some (1, h)) : F = some (eB (isN v n), h) := by
  rw [hF]
  cases q : isN v n with
  | true =>
    obtain ⟨k, hk, rfl⟩ := isN_t (by omega) q
    rw [if_neg (by rw [n_lt0 (by omega)]; exact id), if_neg (of_eq_false (nleF (by omega) (by omega) (by omega)))]
    rfl
  | false =>
    rcases isN_f q with q | q
    · rw [if_pos q]; rfl
    · by_cases q' : v < 0
      · rw [if_pos q']; rfl
      · rw [if_neg q', if_pos q]; rfl
theorem c_isRoom (hA' : AOk A) (r : RC A b mk h) {v : Int32} : f_X11_isRoom N 0 v h = some (eB (isN v (iR (aI A))), h) := by
  obtain ⟨E, e1, e2⟩ := r.innR
  refine c_isN hA'.1.1 ?_
  unfold f_X11_isRoom f_X11_isRoom_19 f_X11_isRoom_20
  rw [r.cur, gb_s, e1.gI (k := 0) rfl rfl, gb_s, e2.2.1, gzb0, gzb1, gg_t, gg_t]
theorem c_isGuest (hA' : AOk A) (r : RC A b mk h) {v : Int32} : f_X11_isGuest N 0 v h = some (eB (isN v (iG (aI A))), h) := by
  obtain ⟨E, e1, e2⟩ := r.innR
  refine c_isN hA'.1.2.1 ?_
  unfold f_X11_isGuest f_X11_isGuest_19 f_X11_isGuest_20
  rw [r.cur, gb_s, e1.gI (k := 1) rfl rfl, gb_s, e2.2.2.1, gzb0, gzb1, gg_t, gg_t]
theorem c_isRule (hA' : AOk A) (r : RC A b mk h) {v : Int32} : f_X11_isRule N 0 v h = some (eB (isN v (iK (aI A))), h) := by
  obtain ⟨E, e1, e2⟩ := r.innR
  refine c_isN (by have := hA'.1.2.2.1; omega) ?_
  unfold f_X11_isRule f_X11_isRule_19 f_X11_isRule_20
  rw [r.cur, gb_s, e1.gI (k := 2) rfl rfl, gb_s, e2.2.2.2.1, gzb0, gzb1, gg_t, gg_t]
theorem c_lim {n : Nat} {v : Int32} (hn : n < 2147483646) {F : Option (Int32 × PH)} (hF : F = if v < 0 then some (0, h) else if Int32.ofNat n < v then some (0, h) else some (1, h)) : F = some (eB (isN v (n + 1)), h) := by
  rw [hF]
  cases q : isN v (n + 1) with
  | true =>
    obtain ⟨k, hk, rfl⟩ := isN_t (by omega) q
    rw [if_neg (by rw [n_lt0 (by omega)]; exact id), if_neg (of_eq_false (nltF (by omega) (by omega) (by omega)))]
    rfl
  | false =>
    rcases isN_f q with q | q
    · rw [if_pos q]; rfl
    · have q1 : Int32.ofNat n < v := by
        rw [i_le, i_ok (by omega)] at q
        rw [i_lt, i_ok (by omega)]
        omega
      by_cases q' : v < 0
      · rw [if_pos q']; rfl
      · rw [if_neg q', if_pos q1]; rfl
theorem c_isTold {v : Int32} : f_X11_isToldMinute N v h = some (eB (isN v 100000), h) := by
  refine c_lim (n := 99999) (by omega) ?_
  unfold f_X11_isToldMinute f_X11_isToldMinute_15 f_X11_isToldMinute_16
  rw [gzb0, gzb1, gg_t, gg_t]
  rfl
theorem c_isAsked {v : Int32} : f_X11_isAskedMinute N v h = some (eB (isN v 1000000), h) := by
  refine c_lim (n := 999999) (by omega) ?_
  unfold f_X11_isAskedMinute f_X11_isAskedMinute_15 f_X11_isAskedMinute_16
  rw [gzb0, gzb1, gg_t, gg_t]
  rfl
theorem eBf (x : Bool) (hx : x = false) : eB x = 0 := by rw [hx]; rfl
theorem eBt (x : Bool) (hx : x = true) : ¬ eB x = 0 := by rw [hx]; decide
theorem c_room (hA' : AOk A) (r w : Int32) : CAns A A (f_X11_room N 0 r w) (ansRoom A r w) := by
  refine CAns.ro (fun h q => ?_)
  obtain ⟨b, mk, q⟩ := q
  have b1 := hA'.1.1
  obtain ⟨E, e1, e2⟩ := q.innR
  obtain ⟨D, d1, d2⟩ := q.hous
  unfold f_X11_room ansRoom
  rw [q.is11, gg_t, c_isRoom hA' q, gc_s]
  cases z : isN r (iR (aI A)) with
  | false => rfl
  | true =>
    obtain ⟨k, hk, rfl⟩ := isN_t (by omega) z
    rw [if_neg (eBt _ rfl), if_pos rfl, i_okc (by omega)]
    by_cases w0 : w = 0
    · rw [if_pos w0, if_pos w0, q.cur, gb_s, e1.gR (k := 5) rfl rfl, gb_s, e1.aI (j := 0) rfl (ixn (by omega) (by omega)), gb_s, i_okc (by omega), (e2.2.2.2.2.2.2.1 k hk).1]
    · rw [if_neg w0, if_neg w0]
      by_cases w1 : w = 1
      · rw [if_pos w1, if_pos w1, q.cur, gb_s, e1.gR (k := 6) rfl rfl, gb_s, e1.aI (j := 1) rfl (ixn (by omega) (by omega)), gb_s, i_okc (by omega), (e2.2.2.2.2.2.2.1 k hk).2]
      · rw [if_neg w1, if_neg w1]
        by_cases w2 : w = 2
        · rw [if_pos w2, if_pos w2, q.stt, gb_s, q.e9.2.2.1, gb_s, d1.gR (k := 0) rfl rfl, gb_s, d1.aI (j := 0) rfl (ixn (by omega) (by omega)), gb_s, i_okc (by omega), d2.1.1 k (by omega)]
        · rw [if_neg w2, if_neg w2]
theorem c_guest (hA' : AOk A) (g w : Int32) : CAns A A (f_X11_guest N 0 g w) (ansGuest A g w) := by
  refine CAns.ro (fun h q => ?_)
  obtain ⟨b, mk, q⟩ := q
  have b1 := hA'.1.2.1
  obtain ⟨E, e1, e2⟩ := q.innR
  obtain ⟨D, d1, d2⟩ := q.hous
  unfold f_X11_guest ansGuest
  rw [q.is11, gg_t, c_isGuest hA' q, gc_s]
  cases z : isN g (iG (aI A)) with
  | false => rfl
  | true =>
    obtain ⟨k, hk, rfl⟩ := isN_t (by omega) z
    rw [if_neg (eBt _ rfl), if_pos rfl, i_okc (by omega)]
    by_cases w0 : w = 0
    · rw [if_pos w0, if_pos w0, q.cur, gb_s, e1.gR (k := 7) rfl rfl, gb_s, e1.aI (j := 2) rfl (ixn (by omega) (by omega)), gb_s, i_okc (by omega), e2.2.2.2.2.2.2.2.1 k hk]
    · rw [if_neg w0, if_neg w0]
      by_cases w1 : w = 1
      · rw [if_pos w1, if_pos w1, q.cur, gb_s, e1.gI (k := 3) rfl rfl, gb_s, c_bath e2 hk, gc_s]
      · rw [if_neg w1, if_neg w1]
        by_cases w2 : w = 2
        · rw [if_pos w2, if_pos w2, q.cur, gb_s, e1.gI (k := 4) rfl rfl, gb_s, c_ill e2 hk, gc_s]
        · rw [if_neg w2, if_neg w2]
          by_cases w3 : w = 3
          · rw [if_pos w3, if_pos w3, q.stt, gb_s, q.e9.2.2.1, gb_s, d1.gR (k := 1) rfl rfl, gb_s, d1.aI (j := 1) rfl (ixn (by omega) (by omega)), gb_s, i_okc (by omega), d2.1.2.1 k (by omega)]
          · rw [if_neg w3, if_neg w3]
            by_cases w4 : w = 4
            · rw [if_pos w4, if_pos w4, q.stt, gb_s, q.e9.2.2.1, gb_s, d1.gR (k := 2) rfl rfl, gb_s, d1.aI (j := 2) rfl (ixn (by omega) (by omega)), gb_s, i_okc (by omega), d2.1.2.2.1 k (by omega)]
            · rw [if_neg w4, if_neg w4]
              by_cases w5 : w = 5
              · rw [if_pos w5, if_pos w5, q.stt, gb_s, q.e9.2.2.1, gb_s, d1.gR (k := 3) rfl rfl, gb_s, d1.aI (j := 3) rfl (ixn (by omega) (by omega)), gb_s, i_okc (by omega), d2.1.2.2.2.1 k (by omega)]
              · rw [if_neg w5, if_neg w5]
theorem c_over : CAns A A (f_X11_over N 0) (Int32.ofNat (hC (hA A))) := by
  refine CAns.ro (fun h q => ?_)
  obtain ⟨b, mk, q⟩ := q
  obtain ⟨G, g1, g2⟩ := q.2.2.2.2.2.2.1.2.2.2.1
  have g1 : At sX0 14 G h := g1
  unfold f_X11_over
  rw [q.stt, gb_s, q.e9.2.2.2.2.1, gb_s, g1.gI (k := 2) rfl rfl, gb_s, g2.2.1]
  rfl
theorem c_sum (w : Int32) : CAns A A (f_X11_sum N 0 w) (ansSum A w) := by
  refine CAns.ro (fun h q => ?_)
  obtain ⟨b, mk, q⟩ := q
  obtain ⟨D, d1, d2⟩ := q.hous
  obtain ⟨⟨_, _, _, _, s4, s5, s6, s7⟩, _⟩ := d2
  unfold f_X11_sum ansSum
  rw [q.stt, gb_s, gb_s, gb_s, gb_s, q.e9.2.2.1, gb_s, gb_s, gb_s, gb_s, d1.gI (k := 4) rfl rfl, d1.gI (k := 5) rfl rfl, d1.gI (k := 6) rfl rfl, d1.gI (k := 7) rfl rfl, gb_s, gb_s, gb_s, gb_s, s4, s5, s6, s7]
  by_cases w0 : w = 0
  · rw [if_pos w0, if_pos w0]
  · rw [if_neg w0, if_neg w0]
    by_cases w1 : w = 1
    · rw [if_pos w1, if_pos w1]
    · rw [if_neg w1, if_neg w1]
      by_cases w2 : w = 2
      · rw [if_pos w2, if_pos w2]
      · rw [if_neg w2, if_neg w2]
        by_cases w3 : w = 3
        · rw [if_pos w3, if_pos w3]
        · rw [if_neg w3, if_neg w3]
/-- only the state's own cell has changed -/
theorem RSt.s9 {I : IA} {S S' : SA} {q : Nat} {D : OD} {h : PH} (r : RSt I S q h) (hq : q + 1 ≤ h.length) (g : r9 S' q (pt sX9 q D h)) (e : sE S' = sE S) (e2 : sS S' = sS S) (e3 : sP S' = sP S) (e4 : sJ S' = sJ S) : RSt I S' q (pt sX9 q D h) := by
  have f : Fr (fun x => x = q) h (pt sX9 q D h) := Fr.of (fun x h1 h2 => by simp only [z9] at h2; omega)
  obtain ⟨a1, a2, a3, a4, a5, a6, a7, a8⟩ := r
  have eR : hR I S' = hR I S := by unfold hR; rw [e]
  unfold RSt
  rw [eR, e, e2, e3, e4]
  exact ⟨g, a2.fr f (fun x _ _ => by omega), a3.fr f (by omega), a4.fr f (fun x _ _ => by omega), a5.fr f (fun x _ _ => by omega), a6.fr f (fun x _ _ => by omega), a7.fr f (fun x _ _ => by omega), a8.fr f (fun x _ _ => by omega)⟩
theorem Fr.nmd {h h' : PH} {P : Nat → Prop} (f : Fr P h h') (q : ∀ x, P x → x < 80 ∨ 106 ≤ x) : Fr (fun x => ¬ Md x) h h' := f.up (fun x hx => by unfold Md; have := q x hx; omega)
theorem c_use (hA' : AOk A) (v : Int32) : CAns A (useS A v) (f_X11_use N 0 v) (eB (ruleOf (aI A) v).isSome) := by
  intro h q
  obtain ⟨b, mk, q⟩ := q
  have b3 := hA'.1.2.2.1
  have ql := q.2.2.2.2.2.2.2.2.2.2.2.2
  -- the rule is laid down
  have put : ∀ x : Option Nat, ∃ h', f_X11_use_15 N 0 (eO x) h = some (1, h') ∧ RepC (setS A (x, (aS A).2)) h' ∧ Fr (fun x => ¬ Md x) h h' := by
    intro x
    obtain ⟨D, a, c, c7, c8, c9, c10⟩ := q.2.2.2.2.2.2.1.1
    refine ⟨pt sX9 7 (si D 8 (eO x)) h, ?_, ⟨b, mk, q.st7 (Fr.of (fun y h1 h2 => by simp only [z9] at h2; omega)) (q.2.2.2.2.2.2.1.s9 (by omega) ⟨si D 8 (eO x), a.p2, c, c7, by rw [oi_si, if_pos rfl]; rfl, c9, c10⟩ rfl rfl rfl rfl)⟩, (Fr.of (P := fun y => y = 7) (fun y h1 h2 => by simp only [z9] at h2; omega)).nmd (fun y hy => by omega)⟩
    unfold f_X11_use_15
    rw [q.stt, gb_s, a.sI (k := 8) rfl rfl, gb_s, gzb1, gg_t]
  unfold f_X11_use useS ruleOf
  by_cases w : v = -1
  · rw [if_pos w, if_pos w, w]
    exact put none
  · rw [if_neg w, if_neg w, q.is11, gg_t, c_isRule hA' q, gc_s]
    cases z : isN v (iK (aI A)) with
    | false =>
      rw [if_pos (eBf _ rfl), gzb0, gg_t]
      exact ⟨h, rfl, ⟨b, mk, q⟩, Fr.rf⟩
    | true =>
      obtain ⟨k, hk, rfl⟩ := isN_t (by omega) z
      rw [if_neg (eBt _ rfl), if_pos rfl, i_okc (by omega)]
      exact put (some k)
theorem c_isIn {D : OD} {I : IA} {H : HA} {p g : Nat} (d : At sX1 p D h) (dr : RepH I H D) (hI : IOk I) (hg : g < 10) : f_X1_isIn N p (Int32.ofNat g) h = some (eB (roomS I H g).isSome, h) := by
  unfold f_X1_isIn f_X1_isIn_15
  rw [d.gR (k := 1) rfl rfl, gb_s, d.aI (j := 1) rfl (ixn (by omega) (by omega)), gb_s, i_okc (by omega), dr.1.2.1 g hg, gzb0, gzb1, gg_t, gg_t]
  cases z : roomS I H g with
  | none => rfl
  | some x => 
    have := (room_s z).1
    have := hI.1
    rw [eO_s, if_neg (by rw [n_m1 (by omega)]; exact id)]
    rfl
end CFace

