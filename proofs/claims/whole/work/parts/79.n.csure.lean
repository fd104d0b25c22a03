/-! The component: ways and sure -/
theorem pgW_up {P : Nat → Nat} {w : Option Nat} {n : Nat} (h : ∀ g, n ≤ g → P g = 0) : ∀ m, n ≤ m → pgW P w m = pgW P w n := by
  intro m
  induction m with
  | zero => intro hm; have : n = 0 := by omega
            subst this; rfl
  | succ m ih =>
    intro hm
    by_cases z : n = m + 1
    · rw [z]
    · have e : pgW P w (m + 1) = if P m = 0 then pgW P w m else if w = some m then pgW P w m else pgW P w m ++ [P m] := rfl
      rw [e, if_pos (h m (by omega)), ih (by omega)]
theorem pgL_W (P : Nat → Nat) (r0 : Nat) : ∀ n, pgL P none r0 n = pgW P none n := by
  intro n
  induction n with
  | zero => rfl
  | succ n ih =>
    unfold pgL pgW mayP
    rw [ih]
    split
    · rfl
    · have f1 : ¬ (none : Option Nat) = some n := fun z => (by cases z)
      rw [if_neg f1, if_neg f1]
section CSure
variable {N : Nat} {A : AA}
theorem RC.wy {b : Bool} {mk : Nat → Option Nat} {h : PH} (q : RC A b mk h) {D D' : OD} (hD : At sX6 22 D h) (hr : ∀ g, g < 10 → oa D 0 g = Int32.ofNat (sP (aS A) g)) (h0 : oa D' 0 = oa D 0) {f f' : Nat → Int32} (hA : Ar 0 1024 65 f h) : RC A b mk (pa 0 1024 65 f' (pt sX6 22 D' h)) ∧ Fr (fun x => ¬ Md x) h (pa 0 1024 65 f' (pt sX6 22 D' h)) := by
  have g6 : r6 (sP (aS A)) (7 + 15) (pt sX6 (7 + 15) D' h) := ⟨D', hD.p2, fun g hg => by rw [h0]; exact hr g hg⟩
  obtain ⟨s1, s2⟩ := q.2.2.2.2.2.2.1.p6 g6
  have q1 := q.st7 (S := aS A) (s2.up (fun x hx => by omega)) s1
  have q1 : RC A b mk (pt sX6 22 D' h) := q1
  have f2 : Fr (fun x => x = 65) (pt sX6 22 D' h) (pa 0 1024 65 f' (pt sX6 22 D' h)) := Fr.pa rfl
  obtain ⟨a1, a2, a3, a4, a5, a6, a7, a8, a9, a10, a11, a12, a13⟩ := q1
  have q2 : RC A b mk (pt sX6 22 D' h) := ⟨a1, a2, a3, a4, a5, a6, a7, a8, a9, a10, a11, a12, a13⟩
  have l65 : 65 < (pt sX6 22 D' h).length := by omega
  exact ⟨q2.sc (f2.up (fun x hx => by omega)) (a4.fr f2 (fun x _ _ => by omega)) (a9.fr f2 (fun x _ _ => by omega)) (a10.fr f2 (fun x _ _ => by omega)) (a11.fr f2 (by omega)) ⟨f', Ar.p2 l65⟩, (s2.nmd (fun x hx => by omega)).tr (f2.nmd (fun x hx => by omega))⟩
theorem c_waysQ (hN : 2000 ≤ N) (hA' : AOk A) : CAnsL A A (f_X11_ways N 0) (Int64.ofNat (waysT (aI A) (sP (aS A)) none 0)) := by
  intro h q
  obtain ⟨b, mk, q⟩ := q
  have hR := hA'.1.1
  have hG := hA'.1.2.1
  have hP := fun g => pag_lt hA'.1 hA'.2.1 g
  obtain ⟨D, d1, d2⟩ := q.2.2.2.2.2.2.1.2.2.2.2.2.1
  have d1 : At sX6 22 D h := d1
  obtain ⟨f, hA⟩ := q.2.2.2.2.2.2.2.2.2.2.2.1
  obtain ⟨E, e1, e2, _⟩ := q.2.2.2.2.1
  obtain ⟨f', D', g1, g2, g3⟩ := c_fillRow (N := N) (R := iR (aI A)) hN hR d1 (Or.inr (by omega)) hA hP d2 (w := none) (fun g hg => by cases hg)
  obtain ⟨q2, fr⟩ := q.wy (f' := f') d1 d2 g2 hA
  have A2 : Ar 0 1024 65 f' (pa 0 1024 65 f' (pt sX6 22 D' h)) := by
    refine Ar.p2 ?_
    have := hA.ln
    rw [pt_len]
    exact this
  have lK := pgW_len (sP (aS A)) none 10
  have bs := c_beside (N := N) hN hR A2 g3 lK (fb := 0) (q := fun _ => true) (fun s _ => by
    have : Int32.ofNat s &&& 0 = 0 := by
      apply Int32.toBitVec_inj.mp
      simp
    rw [this]
    exact propext ⟨fun _ => rfl, fun _ => rfl⟩)
  rw [w_tot hR] at bs
  have ew : waysT (aI A) (sP (aS A)) none 0 = wsum (wRun (iR (aI A)) (pgW (sP (aS A)) none 10)) 1024 := by
    unfold waysT
    rw [pgL_W, pgW_up (n := iG (aI A)) (fun g hg => (hA'.2.1.2.2.2.2.2.1 g).2 hg) 10 hG]
  have tl := w_totle hR (pgW (sP (aS A)) none 10)
  refine ⟨_, ?_, ⟨b, mk, q2⟩, fr⟩
  unfold f_X11_ways f_X6_waysInAll
  have g1 : f_X6_fillRow N 22 65 (Int32.ofNat (iR (aI A))) (-1) h = _ := g1
  rw [q.stt, gb_s, q.2.2.2.2.2.2.1.1.e.2.2.2.2.2.2.1, gb_s, q.e11.2.2.2.2.2.2.2.2.2.1, gb_s, q.cur, gb_s, e1.gI (k := 0) rfl rfl, gb_s, e2.2.1, d1.is rfl, gg_t, gg_t, g1, gc_s, bs, gc_s, gc_s, i2l (by omega), ew]
end CSure

