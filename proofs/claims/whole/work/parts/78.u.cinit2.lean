/-! The component: a new state -/
def I0A : IA := ((0, 0, 0), fun _ => 0, fun _ => 0, fun _ => 0, fun _ => 0, fun _ => 0, fun _ => [])
def S0A : SA := (none, [], [], fun _ => 0, [], [])
theorem I0_ok : IOk I0A := ⟨by decide, by decide, by decide, fun r hr => absurd hr (Nat.not_lt_zero _), fun r hr => absurd hr (Nat.not_lt_zero _), fun r hr => absurd hr (Nat.not_lt_zero _)⟩
section CInit2
variable {N : Nat} {h : PH}
theorem ob_st {β : Type} {c k : Nat} {n0 fs : List Value} {S : Sp} {D : OD} {f : Nat → Nat → PH → Option PH} {L : PH} {F : PH → Option β} (hi : ∀ h0 : PH, f N h0.length (h0 ++ [.inr (c, n0)]) = some (h0 ++ blk S h0.length D)) (hk : k < fs.length) : (gc (nwO c n0 (h ++ .inr (9, fs) :: L)) fun zr zh => gb (f N zr zh) fun zh3 => gb (pfV 9 k h.length (.ref zr) zh3) F) = F (h ++ .inr (9, fs.set k (.ref (h.length + (L.length + 1)))) :: (L ++ blk S (h.length + (L.length + 1)) D)) := by
  have := hi (h ++ .inr (9, fs) :: L)
  have e : (h ++ .inr (9, fs) :: L).length = h.length + (L.length + 1) := by rw [List.length_append]; rfl
  unfold nwO
  rw [gc_s, this, gb_s, e, List.append_assoc, List.cons_append, pfV_a0 hk, gb_s]
theorem al_Q {β : Type} {n ci k : Nat} {fs : List Value} {L : PH} {F : PH → Option β} (hk : k < fs.length) : (gc (nwA 4 n (h ++ .inr (ci, fs) :: L)) fun zr zh => gb (pfV ci k h.length (.ref zr) zh) F) = F (h ++ .inr (ci, fs.set k (.ref (h.length + (L.length + 1)))) :: (L ++ [.inl (4, n, .inr (.inr (.inr (.inr (fun _ => none)))))])) := by
  rw [nwA_a, gc_s, List.cons_append, pfV_a0 hk, gb_s]
  rfl
theorem asQ_at {t n p x ci i : Nat} {f : Nat → Option Nat} (a : h[p]? = some (.inl (t, n, .inr (.inr (.inr (.inr f)))))) (hi : i < n) (hn : n < 1000) (g : gIs ci x h = true) : asQ t p ci (Int32.ofNat i) x h = some (h.set p (.inl (t, n, .inr (.inr (.inr (.inr (va_up f i (some x)))))))) := by
  unfold asQ
  rw [a]
  show (if (t = t ∧ ¬ (Int32.ofNat i < 0 ∨ n ≤ (Int32.ofNat i).toNatClampNeg)) ∧ gIs ci x h = true then some (h.set p (.inl (t, n, .inr (.inr (.inr (.inr (va_up f (Int32.ofNat i).toNatClampNeg (some x)))))))) else none) = _
  have := ixn (k := i) (n := n) hi (by omega)
  rw [if_pos ⟨⟨rfl, this⟩, g⟩, i_okc (by omega)]
theorem r1_new {p : Nat} (a : At sX1 p D01 h) : r1 I0A h0S p h := by
  refine ⟨D01, a, ⟨?_, ?_, ?_, ?_, rfl, rfl, rfl, rfl⟩, rfl, ?_⟩
  · intro r hr
    show fil 10 (-1) (fun _ => 0) r = _
    unfold fil
    rw [if_pos hr]
    rfl
  · intro g hg
    show fil 10 (-1) (fun _ => 0) g = _
    unfold fil
    rw [if_pos hg]
    rfl
  · intro g _; rfl
  · intro g _; rfl
  · show (0 : Int32) = Int32.ofNat (msk (fun _ => false) 10)
    decide
theorem c_init9 (hN : 2000 ≤ N) : ∃ h', f_X9_init N h.length 4 (h ++ [.inr (9, n0X9)]) = some h' ∧ h'.length = h.length + 47 ∧ Ex h h' ∧ RSt I0A S0A h.length h' := by
  generalize hq : h.length = q
  -- up to the trials
  have st : f_X9_init N h.length 4 (h ++ [.inr (9, n0X9)]) = gi (fun zk zs => f_X9_init_79 N zk zs.1 zs.2.1 zs.2.2) 6 (h.length, 0, h ++ .inr (9, [.ref 4, .ref (h.length + 1), .ref (h.length + 6), .ref (h.length + 7), .ref (h.length + 9), .ref (h.length + 15), .ref (h.length + 18), .int 0, .int (-1), .int 0, .int 0]) :: (blk sX1 (h.length + 1) D01 ++ ([.inl (4, 5, .inr (.inr (.inr (.inr (fun _ => none)))))] ++ (blk sX0 (h.length + 7) D00 ++ (blk sX8 (h.length + 9) D00 ++ (blk sX6 (h.length + 15) D00 ++ blk sX4 (h.length + 18) D00)))))) := by
    unfold f_X9_init n0X9
    rw [ob_st (f := f_X1_init) (fun h0 => c_init1 hN) (by simp), al_Q (by simp), ob_st (f := f_X0_init) (fun h0 => c_init0) (by simp), ob_st (f := f_X8_init) (fun h0 => c_init8) (by simp), ob_st (f := f_X6_init) (fun h0 => c_init6) (by simp), ob_st (f := f_X4_init) (fun h0 => c_init4) (by simp), pfV_a0 (by simp), gb_s, pfV_a0 (by simp), gb_s]
    simp only [List.nil_append, List.append_assoc, List.length_append, blk_len, List.length_singleton, List.length_nil, z1, z0, z8, z6, z4]
    rfl
  rw [hq] at st
  generalize hh1 : h ++ .inr (9, [.ref 4, .ref (q + 1), .ref (q + 6), .ref (q + 7), .ref (q + 9), .ref (q + 15), .ref (q + 18), .int 0, .int (-1), .int 0, .int 0]) :: (blk sX1 (q + 1) D01 ++ ([.inl (4, 5, .inr (.inr (.inr (.inr (fun _ => none)))))] ++ (blk sX0 (q + 7) D00 ++ (blk sX8 (q + 9) D00 ++ (blk sX6 (q + 15) D00 ++ blk sX4 (q + 18) D00))))) = h1 at st
  -- what lies where
  have len1 : h1.length = q + 22 := by
    rw [← hh1]
    simp only [List.length_append, List.length_cons, blk_len, List.length_nil, z1, z0, z8, z6, z4, hq]
  have at1 : At sX1 (q + 1) D01 h1 := by
    rw [← hh1]
    have := At_blk (S := sX1) (D := D01) (h := h ++ [.inr (9, [.ref 4, .ref (q + 1), .ref (q + 6), .ref (q + 7), .ref (q + 9), .ref (q + 15), .ref (q + 18), .int 0, .int (-1), .int 0, .int 0])]) (l := [.inl (4, 5, .inr (.inr (.inr (.inr (fun _ => none)))))] ++ (blk sX0 (q + 7) D00 ++ (blk sX8 (q + 9) D00 ++ (blk sX6 (q + 15) D00 ++ blk sX4 (q + 18) D00))))
    rw [List.length_append, List.length_singleton, hq, List.append_assoc] at this
    exact this
  have cut : ∀ (X Y : PH) (S : Sp) (D : OD) (n : Nat), h1 = X ++ (blk S n D ++ Y) → X.length = n → At S n D h1 := by
    intro X Y S D n e hn
    rw [e, ← hn]
    exact At_blk
  have at0 : At sX0 (q + 7) D00 h1 := by
    refine cut (h ++ .inr (9, [.ref 4, .ref (q + 1), .ref (q + 6), .ref (q + 7), .ref (q + 9), .ref (q + 15), .ref (q + 18), .int 0, .int (-1), .int 0, .int 0]) :: (blk sX1 (q + 1) D01 ++ [.inl (4, 5, .inr (.inr (.inr (.inr (fun _ => none)))))])) (blk sX8 (q + 9) D00 ++ (blk sX6 (q + 15) D00 ++ blk sX4 (q + 18) D00)) _ _ _ ?_ ?_
    · rw [← hh1]
      simp only [List.append_assoc, List.cons_append]
    · simp only [List.length_append, List.length_cons, blk_len, List.length_nil, z1, hq]
  have at8 : At sX8 (q + 9) D00 h1 := by
    refine cut (h ++ .inr (9, [.ref 4, .ref (q + 1), .ref (q + 6), .ref (q + 7), .ref (q + 9), .ref (q + 15), .ref (q + 18), .int 0, .int (-1), .int 0, .int 0]) :: (blk sX1 (q + 1) D01 ++ ([.inl (4, 5, .inr (.inr (.inr (.inr (fun _ => none)))))] ++ blk sX0 (q + 7) D00))) (blk sX6 (q + 15) D00 ++ blk sX4 (q + 18) D00) _ _ _ ?_ ?_
    · rw [← hh1]
      simp only [List.append_assoc, List.cons_append]
    · simp only [List.length_append, List.length_cons, blk_len, List.length_nil, z1, z0, hq]
  have at6 : At sX6 (q + 15) D00 h1 := by
    refine cut (h ++ .inr (9, [.ref 4, .ref (q + 1), .ref (q + 6), .ref (q + 7), .ref (q + 9), .ref (q + 15), .ref (q + 18), .int 0, .int (-1), .int 0, .int 0]) :: (blk sX1 (q + 1) D01 ++ ([.inl (4, 5, .inr (.inr (.inr (.inr (fun _ => none)))))] ++ (blk sX0 (q + 7) D00 ++ blk sX8 (q + 9) D00)))) (blk sX4 (q + 18) D00) _ _ _ ?_ ?_
    · rw [← hh1]
      simp only [List.append_assoc, List.cons_append]
    · simp only [List.length_append, List.length_cons, blk_len, List.length_nil, z1, z0, z8, hq]
  have at4 : At sX4 (q + 18) D00 h1 := by
    refine cut (h ++ .inr (9, [.ref 4, .ref (q + 1), .ref (q + 6), .ref (q + 7), .ref (q + 9), .ref (q + 15), .ref (q + 18), .int 0, .int (-1), .int 0, .int 0]) :: (blk sX1 (q + 1) D01 ++ ([.inl (4, 5, .inr (.inr (.inr (.inr (fun _ => none)))))] ++ (blk sX0 (q + 7) D00 ++ (blk sX8 (q + 9) D00 ++ blk sX6 (q + 15) D00))))) [] _ _ _ ?_ ?_
    · rw [← hh1]
      simp only [List.append_assoc, List.cons_append, List.append_nil]
    · simp only [List.length_append, List.length_cons, blk_len, List.length_nil, z1, z0, z8, z6, hq]
  have at9 : At sX9 q (fun k => if k = 8 then -1 else 0, fun _ => 0, fun _ _ => 0, fun _ _ => 0, fun k => [Value.ref 4, .ref (q + 1), .ref (q + 6), .ref (q + 7), .ref (q + 9), .ref (q + 15), .ref (q + 18)].getD k .null, fun _ _ => none) h1 := by
    refine cut h (blk sX1 (q + 1) D01 ++ ([.inl (4, 5, .inr (.inr (.inr (.inr (fun _ => none)))))] ++ (blk sX0 (q + 7) D00 ++ (blk sX8 (q + 9) D00 ++ (blk sX6 (q + 15) D00 ++ blk sX4 (q + 18) D00))))) _ _ _ ?_ hq
    rw [← hh1]
    rfl
  have tr1 : h1[q + 6]? = some (.inl (4, 5, .inr (.inr (.inr (.inr (fun _ => none)))))) := by
    have e : h1 = (h ++ .inr (9, [.ref 4, .ref (q + 1), .ref (q + 6), .ref (q + 7), .ref (q + 9), .ref (q + 15), .ref (q + 18), .int 0, .int (-1), .int 0, .int 0]) :: blk sX1 (q + 1) D01) ++ ([.inl (4, 5, .inr (.inr (.inr (.inr (fun _ => none)))))] ++ (blk sX0 (q + 7) D00 ++ (blk sX8 (q + 9) D00 ++ (blk sX6 (q + 15) D00 ++ blk sX4 (q + 18) D00)))) := by
      rw [← hh1]
      simp only [List.append_assoc, List.cons_append]
    have l : (h ++ .inr (9, [.ref 4, .ref (q + 1), .ref (q + 6), .ref (q + 7), .ref (q + 9), .ref (q + 15), .ref (q + 18), .int 0, .int (-1), .int 0, .int 0]) :: blk sX1 (q + 1) D01).length = q + 6 := by
      simp only [List.length_append, List.length_cons, blk_len, z1, hq]
    rw [e, List.getElem?_append_right (by omega), l, Nat.sub_self]
    rfl
  have ex1 : Ex h h1 := by
    rw [← hh1]
    exact Ex.app _ _
  -- the trials
  have lp : ∀ n i m hc, i + n = 5 → n < m → hc.length = q + 22 + 5 * i → (∀ a, a ≠ q + 6 → a < q + 22 → hc[a]? = h1[a]?) → (∃ f, hc[q + 6]? = some (.inl (4, 5, .inr (.inr (.inr (.inr f))))) ∧ ∀ j, j < i → f j = some (q + 22 + 5 * j)) → (∀ j, j < i → At sX1 (q + 22 + 5 * j) D01 hc) → ∃ h', gi (fun zk zs => f_X9_init_79 N zk zs.1 zs.2.1 zs.2.2) m (q, Int32.ofNat i, hc) = some h' ∧ h'.length = q + 47 ∧ (∀ a, a ≠ q + 6 → a < q + 22 → h'[a]? = h1[a]?) ∧ rTr q h' ∧ ∀ j, j < 5 → At sX1 (q + 22 + 5 * j) D01 h' := by
    intro n
    induction n with
    | zero =>
      intro i m hc hi hm l1 l2 l3 l4
      have : i = 5 := by omega
      subst this
      obtain ⟨m, rfl⟩ : ∃ k, m = k + 1 := ⟨m - 1, by omega⟩
      obtain ⟨f, f1, f2⟩ := l3
      have a9 : At sX9 q (fun k => if k = 8 then -1 else 0, fun _ => 0, fun _ _ => 0, fun _ _ => 0, fun k => [Value.ref 4, .ref (q + 1), .ref (q + 6), .ref (q + 7), .ref (q + 9), .ref (q + 15), .ref (q + 18)].getD k .null, fun _ _ => none) hc := by
        rw [At_iff] at at9 ⊢
        intro a a1 a2
        simp only [z9] at a2
        rw [l2 a (by omega) (by omega)]
        exact at9 a a1 a2
      have rt : rTr q hc := ⟨f, f1, f2⟩
      refine ⟨hc, ?_, by omega, l2, rt, l4⟩
      rw [gi_1]
      dsimp only
      unfold f_X9_init_79
      have c5 : Int32.ofNat 5 ≤ Int32.ofNat 5 := by decide
      rw [a9.gV (k := 2) rfl rfl rfl, gb_s, rt.ln, gb_s, if_pos c5]
    | succ n ih =>
      intro i m hc hi hm l1 l2 l3 l4
      obtain ⟨m, rfl⟩ : ∃ k, m = k + 1 := ⟨m - 1, by omega⟩
      obtain ⟨f, f1, f2⟩ := l3
      have a9 : At sX9 q (fun k => if k = 8 then -1 else 0, fun _ => 0, fun _ _ => 0, fun _ _ => 0, fun k => [Value.ref 4, .ref (q + 1), .ref (q + 6), .ref (q + 7), .ref (q + 9), .ref (q + 15), .ref (q + 18)].getD k .null, fun _ _ => none) hc := by
        rw [At_iff] at at9 ⊢
        intro a a1 a2
        simp only [z9] at a2
        rw [l2 a (by omega) (by omega)]
        exact at9 a a1 a2
      have al : alen 4 (q + 6) hc = some (Int32.ofNat 5) := by
        unfold alen
        rw [f1]
        show (if (4 : Nat) = 4 then some (Int32.ofNat 5) else none) = _
        rw [if_pos rfl]
      have nb : At sX1 hc.length D01 (hc ++ blk sX1 hc.length D01) := At_blk0
      have exn : ∀ a, a < hc.length → (hc ++ blk sX1 hc.length D01)[a]? = hc[a]? := fun a ha => List.getElem?_append_left ha
      have q6 : (hc ++ blk sX1 hc.length D01)[q + 6]? = some (.inl (4, 5, .inr (.inr (.inr (.inr f))))) := by rw [exn _ (by omega)]; exact f1
      have sq := asQ_at (i := i) (x := hc.length) (ci := 1) q6 (by omega) (by omega) (nb.is rfl)
      have ln2 : ((hc ++ blk sX1 hc.length D01).set (q + 6) (.inl (4, 5, .inr (.inr (.inr (.inr (va_up f i (some hc.length)))))))).length = q + 22 + 5 * (i + 1) := by
        rw [List.length_set, List.length_append, blk_len]
        simp only [z1]
        omega
      have gt : ∀ a, a ≠ q + 6 → ((hc ++ blk sX1 hc.length D01).set (q + 6) (.inl (4, 5, .inr (.inr (.inr (.inr (va_up f i (some hc.length))))))))[a]? = (hc ++ blk sX1 hc.length D01)[a]? := fun a ha => List.getElem?_set_ne (fun z => ha z.symm)
      obtain ⟨h', k1, k2⟩ := ih (i + 1) m _ (by omega) (by omega) ln2 (fun a a1 a2 => by rw [gt a a1, exn a (by omega)]; exact l2 a a1 a2) ⟨va_up f i (some hc.length), by rw [List.getElem?_set_self (by rw [List.length_append]; omega)], fun j hj => by
          unfold va_up
          by_cases w : j = i
          · rw [if_pos w, l1, w]
          · rw [if_neg w]
            exact f2 j (by omega)⟩ (fun j hj => by
          rw [At_iff]
          intro a a1 a2
          simp only [z1] at a2
          rw [gt a (by omega)]
          by_cases w : j = i
          · subst w
            rw [l1] at nb
            rw [← l1] at nb
            have := At_iff.mp nb a (by omega) (by simp only [z1]; omega)
            rw [this, l1]
          · rw [exn a (by omega)]
            exact At_iff.mp (l4 j (by omega)) a a1 (by simp only [z1]; exact a2))
      refine ⟨h', ?_, k2⟩
      rw [gi_1]
      generalize hz : gi _ m = zk at k1
      dsimp only
      unfold f_X9_init_79 nwO
      have c5 : ¬ Int32.ofNat 5 ≤ Int32.ofNat i := of_eq_false (nleF (by omega) (by omega) (by omega))
      rw [a9.gV (k := 2) rfl rfl rfl, gb_s, al, gb_s, if_neg c5, gb_s, gc_s, c_init1 hN, gb_s, sq, gb_s, gl_s, n_add1]
      exact k1
  obtain ⟨h', k1, k2, k3, k4, k5⟩ := lp 5 0 6 h1 (by omega) (by omega) (by omega) (fun a _ _ => rfl) ⟨_, tr1, fun j hj => by omega⟩ (fun j hj => by omega)
  have k1 : gi (fun zk zs => f_X9_init_79 N zk zs.1 zs.2.1 zs.2.2) 6 (q, 0, h1) = some h' := k1
  have fr : Fr (fun x => x = q + 6 ∨ q + 22 ≤ x) h1 h' := fun a ha => k3 a (fun z => ha (Or.inl z)) (by omega)
  refine ⟨h', ?_, k2, ?_, ?_⟩
  · rw [← hq] at st ⊢
    rw [st, hq]
    exact k1
  · intro a c ha
    have al := ln_of ha
    rw [k3 a (by omega) (by omega)]
    exact ex1 a c ha
  · refine ⟨⟨_, at9.fr fr (fun x x1 x2 => by simp only [z9] at x2; omega), ⟨rfl, rfl, rfl, rfl, rfl, rfl, rfl⟩, ?_, rfl, rfl, rfl⟩, r1_new (at1.fr fr (fun x x1 x2 => by simp only [z1] at x2; omega)), k4, ⟨D00, at0.fr fr (fun x x1 x2 => by simp only [z0] at x2; omega), rfl, rfl, fun k x hx => by cases hx⟩, ⟨D00, at8.fr fr (fun x x1 x2 => by simp only [z8] at x2; omega), rfl, fun k x hx => by cases hx⟩, ⟨D00, at6.fr fr (fun x x1 x2 => by simp only [z6] at x2; omega), fun g _ => rfl⟩, ⟨D00, at4.fr fr (fun x x1 x2 => by simp only [z4] at x2; omega), rfl, fun k x hx => by cases hx⟩, ?_⟩
    · show (if 7 = 8 then (-1 : Int32) else 0) = Int32.ofNat (msk (fun g => ([] : List Nat).contains g) 10)
      decide
    · intro i hi
      obtain ⟨D, a, b⟩ := r1_new (k5 i hi)
      exact ⟨D, a, fun _ => b⟩
end CInit2

