/-! The component: a new inn -/
theorem fl_at {rs : List (List Cd)} {k : Nat} {cs : List Cd} (h : rs[k]? = some cs) : (rs.take (k + 1)).flatten.length = (rs.take k).flatten.length + cs.length ∧ ∀ (j : Nat) (c : Cd), cs[j]? = some c → rs.flatten[(rs.take k).flatten.length + j]? = some c := by
  have hl := ln_of h
  have e0 : rs[k] = cs := by rw [List.getElem?_eq_getElem hl] at h; exact Option.some.inj h
  have e1 : rs.take (k + 1) = rs.take k ++ [cs] := by rw [List.take_add_one, h]; rfl
  have e2 : rs = rs.take k ++ (cs :: rs.drop (k + 1)) := by
    rw [← e0, ← List.drop_eq_getElem_cons hl, List.take_append_drop]
  refine ⟨by rw [e1, List.flatten_append, List.length_append]; simp, fun j c hj => ?_⟩
  have e3 : rs.flatten = (rs.take k).flatten ++ (cs ++ (rs.drop (k + 1)).flatten) := by
    conv => lhs; rw [e2]
    rw [List.flatten_append, List.flatten_cons]
  rw [e3, List.getElem?_append_right (by omega), Nat.add_sub_cancel_left, List.getElem?_append_left (ln_of hj)]
  exact hj
theorem bI1 (x : Bool) : decide ((if x = true then 1 else 0) = 1) = x := by cases x <;> rfl
theorem CDr.ic {s : PS} {E : OD} (q : CDr s E) (hs : PSk s) (hb : (cdAll s.2.2).length ≤ 1001) : RepIC (psI s) E := by
  obtain ⟨e1, e2, e3, e4, e5, e6, e7, e8, e9⟩ := q
  refine ⟨psI_ok hs, e1, e2, e3, ?_, ?_, ?_, ?_, ?_⟩
  · rw [e4]
    congr 1
    refine msk_ext (fun k _ => ?_)
    show _ = decide ((if (s.2.1.getD k ([], 0, false, false)).2.2.1 = true then 1 else 0) = 1)
    exact (bI1 _).symm
  · rw [e5]
    congr 1
    refine msk_ext (fun k _ => ?_)
    show _ = decide ((if (s.2.1.getD k ([], 0, false, false)).2.2.2 = true then 1 else 0) = 1)
    exact (bI1 _).symm
  · intro r hr
    have hr : r < s.1.length := hr
    have g : s.1[r]? = some s.1[r] := List.getElem?_eq_getElem hr
    have := e6 r _ g
    show oa E 5 r = Int32.ofNat (s.1.getD r (0, 0)).1 ∧ oa E 6 r = Int32.ofNat (s.1.getD r (0, 0)).2
    rw [List.getD_eq_getElem?_getD, g]
    exact this
  · intro r hr
    have hr : r < s.2.1.length := hr
    have g : s.2.1[r]? = some s.2.1[r] := List.getElem?_eq_getElem hr
    have := e7 r _ g
    show oa E 7 r = Int32.ofNat (s.2.1.getD r ([], 0, false, false)).2.1
    rw [List.getD_eq_getElem?_getD, g]
    exact this.1
  · refine ⟨fun k => (s.2.2.take k).flatten.length, fun k hk => ⟨e9 k hk, ?_⟩, fun k hk => ?_⟩
    · have b1 : (cdAll s.2.2).length = 0 + s.2.2.flatten.length + s.2.2.length := cd_fl s.2.2 []
      have b2 : (s.2.2.take k).flatten.length ≤ s.2.2.flatten.length := by
        conv => rhs; rw [← List.take_append_drop k s.2.2]
        rw [List.flatten_append, List.length_append]
        omega
      by_cases z : s.2.2 = []
      · rw [z]
        simp
      · have : 1 ≤ s.2.2.length := by
          cases hh : s.2.2 with
          | nil => exact absurd hh z
          | cons a l => rw [List.length_cons]; omega
        show (s.2.2.take k).flatten.length ≤ 1000
        omega
    · have hk : k < s.2.2.length := hk
      have g : s.2.2[k]? = some s.2.2[k] := List.getElem?_eq_getElem hk
      have ec : iCd (psI s) k = s.2.2[k] := by
        show s.2.2.getD k [] = _
        rw [List.getD_eq_getElem?_getD, g]
        rfl
      obtain ⟨a1, a2⟩ := fl_at g
      rw [ec]
      refine ⟨a1.symm, fun j c hj => ?_⟩
      exact e8.2 _ c (a2 j c hj)
section CInn
variable {N : Nat} {A : AA}
theorem c_inn (hN : 2000 ≤ N) (hA' : AOk A) : CAns A (innS A) (f_X11_inn N 0) (ansInn A) := by
  intro h q
  obtain ⟨b, mk, q⟩ := q
  have q' := q
  have hT : TOk (aT A) := ⟨hA'.2.2.1, hA'.2.2.2.1⟩
  have cl := cu_lt b
  have cl2 := cu_lt (!b)
  obtain ⟨a1, a2, a3, a4, a5, a6, a7, a8, a9, a10, a11, a12, a13⟩ := q
  obtain ⟨R, r1, r2⟩ := a3
  obtain ⟨D, d1, d2, d3⟩ := a2
  obtain ⟨E, e1, e2⟩ := a6
  have hh : H3 (cu (!b)) h R D E = h := by
    unfold H3
    rw [e1.2, d1.2, r1.2]
  obtain ⟨v, R', D', E', i1, i2, i3, i4⟩ := c_readInto (N := N) (h := h) (T := aT A) (c := cu (!b)) (by omega) (by omega) (by omega) hN hT r2 (D := D) ⟨d2, d3⟩ e2
  rw [hh] at i1
  have em : f_X10_empty N 1 (H3 (cu (!b)) h R' D' E') = some (H3 (cu (!b)) h R' (si D' 1 0) E') := by
    unfold f_X10_empty
    have p1 : pfV 10 1 1 (.int 0) (H3 (cu (!b)) h R' D' E') = some (H3 (cu (!b)) h R' (si D' 1 0) E') := by
      rw [H3_t (by omega), H3_t (by omega)]
      exact pfI_pt (by rw [pt_len, pt_len]; simp only [z10]; omega) rfl rfl
    rw [p1, gb_s]
  have fr0 : ∀ D9, Fr (fun x => (1 ≤ x ∧ x < 4) ∨ (cu (!b) ≤ x ∧ x < cu (!b) + 7)) h (H3 (cu (!b)) h R' D9 E') := by
    intro D9
    unfold H3
    refine ((Fr.of ?_).tr (Fr.of ?_)).tr (Fr.of ?_)
    · intro x x1 x2; simp only [z2] at x2; omega
    · intro x x1 x2; simp only [z10] at x2; omega
    · intro x x1 x2; simp only [z3] at x2; omega
  have fx := fr0 D'
  have f2 := fr0 (si D' 1 0)
  have y1 := H3_at (c := cu (!b)) (h := h) (R := R') (D := D') (E := E') (by omega) (by omega)
  have y2 := H3_at (c := cu (!b)) (h := h) (R := R') (D := si D' 1 0) (E := E') (by omega) (by omega)
  have t11 := (a1.fr fx (by omega))
  generalize hx1 : H3 (cu (!b)) h R' D' E' = hx at i1 em fx y1 t11
  generalize hx2 : H3 (cu (!b)) h R' (si D' 1 0) E' = h2 at em f2 y2
  obtain ⟨X, x1, x2, x3⟩ := t11
  have st : f_X11_inn N 0 h = if v = 0 then (gb (gfR 11 9 0 h2) fun zt8 => gb (gfR 11 10 0 h2) fun zt9 => gb (pfV 11 9 0 (.ref zt9) h2) fun zh10 => gb (pfV 11 10 0 (.ref zt8) zh10) fun zh11 => gb (gfR 11 3 0 zh11) fun zt12 => gb (gfR 11 9 0 zh11) fun zt13 => gb (gfI 2 2 zt13 zh11) fun zt14 => if (zt14 : Int32) ≤ 0 then (f_X11_inn_62 N 0 (-1) zt12 zh11) else (f_X11_inn_62 N 0 0 zt12 zh11)) else some (v, h2) := by
    unfold f_X11_inn
    rw [q'.e11.2.2.1, gb_s, q'.e11.2.2.2.2.2.2.2.2.2.2.2, gb_s, r1.is rfl, gg_t, i1, gc_s, x1.gV (k := 0) rfl rfl x2.1, gb_s, y1.2.1.is rfl, gg_t, em, gb_s]
  have nm2 : Fr (fun x => ¬ Md x) h h2 := f2.up (fun x hx => by unfold Md; omega)
  have c10n : c10 [] h2 := ⟨si D' 1 0, y2.2.1, rfl, fun k c hk => (by cases hk)⟩
  have c3n : c3 h2 := ⟨R', y2.1, i2.1⟩
  have l2 : 106 ≤ h2.length := by
    have := f2.len (n := 105) (by omega) (by omega)
    omega
  have hP : innP A = pInn 1000 ([], [], []) (toks (aT A)) := rfl
  obtain ⟨t1, t2⟩ := toks_ok hT
  have ps0 : PSk ([], [], []) := ⟨by decide, by decide, by decide, fun x hx => (by cases hx), fun x hx => (by cases hx), fun x hx => (by cases hx)⟩
  cases hq : pInn 1000 ([], [], []) (toks (aT A)) with
  | inl f =>
    rw [hq] at i4
    have i4 : v = Int32.ofNat f := i4
    have ea : ansInn A = Int32.ofNat f := by unfold ansInn; rw [hP, hq]
    have eS : innS A = (aI A, [], aS A, aM A) := by unfold innS; rw [hP, hq]
    obtain ⟨k1, k2⟩ := pInn_f 1000 ([], [], []) (toks (aT A)) ps0 t1 t2 f hq
    have vn : ¬ v = 0 := by
      rw [i4]
      exact of_eq_false (neqF (b := 0) (by omega) (by omega) (by omega))
    rw [st, if_neg vn, ea, eS, i4]
    refine ⟨h2, rfl, ⟨b, mk, ?_⟩, nm2⟩
    exact ⟨a1.fr f2 (by omega), c10n, c3n, a4.fr f2 (fun x _ _ => by omega), a5.fr f2 (fun x _ _ => by omega), ⟨E', y2.2.2, i3⟩, a7.fr f2 (fun x _ _ => by omega), a8.fr f2 (fun x _ => by omega), a9.fr f2 (fun x _ _ => by omega), a10.fr f2 (fun x _ _ => by omega), a11.fr f2 (by omega), a12.fr f2 (by omega), l2⟩
  | inr s =>
    rw [hq] at i4
    have i4 : v = 0 ∧ CDr s E' := i4
    have ea : ansInn A = 0 := by unfold ansInn; rw [hP, hq]
    have eS : innS A = (psI s, [], s0A (psI s), fun _ => none) := by unfold innS; rw [hP, hq]
    obtain ⟨k1, k2⟩ := pInn_ok 1000 ([], [], []) (toks (aT A)) ps0 t1 t2 (by show 0 + _ ≤ _; omega) s hq
    have ic := i4.2.ic k1 k2
    obtain ⟨X2, w1, w2, w3⟩ := a1.fr f2 (by omega)
    have w2' := w2
    obtain ⟨v0, v1, v2, v3, v4, v5, v6, v7, v8, v9, v10⟩ := w2
    -- the two inns change places
    have s1 : pfV 11 9 0 (.ref (cu (!b))) h2 = some (pt sX11 0 (sv X2 9 (.ref (cu (!b)))) h2) := w1.sV (k := 9) rfl rfl
    have u1 : At sX11 0 (sv X2 9 (.ref (cu (!b)))) (pt sX11 0 (sv X2 9 (.ref (cu (!b)))) h2) := w1.p2
    have s2 : pfV 11 10 0 (.ref (cu b)) (pt sX11 0 (sv X2 9 (.ref (cu (!b)))) h2) = some (pt sX11 0 (sv (sv X2 9 (.ref (cu (!b)))) 10 (.ref (cu b))) (pt sX11 0 (sv X2 9 (.ref (cu (!b)))) h2)) := u1.sV (k := 10) rfl rfl
    rw [pt_pt] at s2
    have u2 : At sX11 0 (sv (sv X2 9 (.ref (cu (!b)))) 10 (.ref (cu b))) (pt sX11 0 (sv (sv X2 9 (.ref (cu (!b)))) 10 (.ref (cu b))) h2) := w1.p2
    have f3 : Fr (fun x => x = 0) h2 (pt sX11 0 (sv (sv X2 9 (.ref (cu (!b)))) 10 (.ref (cu b))) h2) := Fr.of (fun x x1 x2 => by simp only [z11] at x2; omega)
    generalize hx3 : pt sX11 0 (sv (sv X2 9 (.ref (cu (!b)))) 10 (.ref (cu b))) h2 = h3 at s2 u2 f3
    have g9 : ov (sv (sv X2 9 (.ref (cu (!b)))) 10 (.ref (cu b))) 9 = .ref (cu (!b)) := by rw [ov_sv, if_neg (by decide), ov_sv, if_pos rfl]
    have y3 : At sX2 (cu (!b)) E' h3 := y2.2.2.fr f3 (fun x x1 x2 => by omega)
    have rs3 : RSt (aI A) (aS A) 7 h3 := (a7.fr f2 (fun x _ _ => by omega)).fr f3 (fun x _ _ => by omega)
    obtain ⟨h4, zz1, zz2, zz3⟩ := c_reset (N := N) hN rs3 (I := psI s) (v := eO (sR (s0A (psI s)))) rfl
    have u4 : At sX11 0 (sv (sv X2 9 (.ref (cu (!b)))) 10 (.ref (cu b))) h4 := u2.fr zz2 (fun x x1 x2 => by simp only [z11] at x2; omega)
    have s5 : pfV 11 11 0 (.int 0) h4 = some (pt sX11 0 (si (sv (sv X2 9 (.ref (cu (!b)))) 10 (.ref (cu b))) 11 0) h4) := u4.sI (k := 11) rfl rfl
    have u5 : At sX11 0 (si (sv (sv X2 9 (.ref (cu (!b)))) 10 (.ref (cu b))) 11 0) (pt sX11 0 (si (sv (sv X2 9 (.ref (cu (!b)))) 10 (.ref (cu b))) 11 0) h4) := u4.p2
    have f5 : Fr (fun x => x = 0) h4 (pt sX11 0 (si (sv (sv X2 9 (.ref (cu (!b)))) 10 (.ref (cu b))) 11 0) h4) := Fr.of (fun x x1 x2 => by simp only [z11] at x2; omega)
    generalize hx5 : pt sX11 0 (si (sv (sv X2 9 (.ref (cu (!b)))) 10 (.ref (cu b))) 11 0) h4 = h5 at s5 u5 f5
    have fA : Fr (fun x => x = 0 ∨ (7 ≤ x ∧ x < 54)) h2 h5 := ((f3.up (fun x hx => Or.inl hx)).tr (zz2.up (fun x hx => Or.inr (by omega)))).tr (f5.up (fun x hx => Or.inl hx))
    have fB : Fr (fun x => x < 4 ∨ (7 ≤ x ∧ x < 54) ∨ (cu (!b) ≤ x ∧ x < cu (!b) + 7)) h h5 := (f2.up (fun x hx => by omega)).tr (fA.up (fun x hx => by omega))
    have i62 : ∀ v, v = eO (sR (s0A (psI s))) → f_X11_inn_62 N 0 v 7 h3 = some (0, h5) := by
      intro v hv
      rw [hv]
      unfold f_X11_inn_62
      rw [rs3.1.e.1, gg_t, zz1, gb_s, s5, gb_s]
    rw [st, if_pos i4.1, ea, eS]
    refine ⟨h5, ?_, ⟨!b, mk, ?_⟩, fB.up (fun x hx => by unfold Md; omega)⟩
    · rw [w1.gV (k := 9) rfl rfl v9, gb_s, w1.gV (k := 10) rfl rfl v10, gb_s, s1, gb_s, s2, gb_s, u2.gV (k := 3) rfl rfl v3, gb_s, u2.gV (k := 9) rfl rfl g9, gb_s, y3.gI (k := 2) rfl rfl, gb_s, i4.2.2.2.1]
      by_cases zk : s.2.2.length = 0
      · have n1 : (Int32.ofNat s.2.2.length ≤ (0 : Int32)) = True := nleT (b := 0) (by omega) (by omega) (by omega)
        rw [if_pos (of_eq_true n1)]
        refine i62 _ ?_
        have : sR (s0A (psI s)) = none := by
          show (if 0 < s.2.2.length then some 0 else none) = none
          rw [zk]
          rfl
        rw [this]
        rfl
      · have n1 : (Int32.ofNat s.2.2.length ≤ (0 : Int32)) = False := nleF (b := 0) (by omega) (by have := k1.2.2.1; omega) (by omega)
        rw [if_neg (of_eq_false n1)]
        refine i62 _ ?_
        have : sR (s0A (psI s)) = some 0 := by
          show (if 0 < s.2.2.length then some 0 else none) = some 0
          rw [if_pos (by omega)]
        rw [this]
        rfl
    · have bb : cu (!(!b)) = cu b := by rw [Bool.not_not]
      refine ⟨⟨_, u5, ⟨v0, v1, v2, v3, v4, v5, v6, v7, v8, g9, ?_⟩, ?_⟩, c10n.fr fA (fun x _ _ => by omega), c3n.fr fA (by omega), a4.fr fB (fun x _ _ => by omega), ⟨E', y2.2.2.fr fA (fun x x1 x2 => by omega), ic, i3⟩, ?_, zz3.fr f5 (fun x _ _ => by omega), ?_, a9.fr fB (fun x _ _ => by omega), a10.fr fB (fun x _ _ => by omega), a11.fr fB (by omega), a12.fr fB (by omega), ?_⟩
      · rw [bb]
        show ov (sv (sv X2 9 (.ref (cu (!b)))) 10 (.ref (cu b))) 10 = _
        rw [ov_sv, if_pos rfl]
      · rw [oi_si, if_pos rfl]
        show (0 : Int32) = Int32.ofNat (msk (fun _ => false) 4)
        decide
      · rw [bb]
        obtain ⟨E0, o1, o2, o3⟩ := a5
        exact ⟨E0, o1.fr fB (fun x x1 x2 => by simp only [z2] at x2; omega), o3⟩
      · obtain ⟨o1, o2, o3, o4⟩ := a8.fr fB (fun x _ => by omega)
        exact ⟨o1, o2, fun m hm S hS => (by cases hS), o4⟩
      · have := fB.len (n := 105) (by omega) (by omega)
        omega
end CInn

