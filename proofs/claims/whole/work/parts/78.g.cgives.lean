/-! The component: a heap that has grown; gives -/
def Ex (h h' : PH) : Prop := ∀ (a : Nat) (c : va_E), h[a]? = some c → h'[a]? = some c
theorem Ex.app (h l : PH) : Ex h (h ++ l) := by
  intro a c ha
  have := ln_of ha
  rw [List.getElem?_append_left this]
  exact ha
theorem At.exx {S : Sp} {p : Nat} {D : OD} {h h' : PH} (hA : At S p D h) (e : Ex h h') : At S p D h' := by
  rw [At_iff] at *
  intro a h1 h2
  exact e a _ (hA a h1 h2)
section Exs
variable {h h' : PH}
theorem RSt.exx {I : IA} {S : SA} {q : Nat} (r : RSt I S q h) (e : Ex h h') : RSt I S q h' := by
  obtain ⟨⟨D1, a1, b1⟩, ⟨D2, a2, b2⟩, ⟨f3, a3, b3⟩, ⟨D4, a4, b4⟩, ⟨D5, a5, b5⟩, ⟨D6, a6, b6⟩, ⟨D7, a7, b7⟩, a8⟩ := r
  refine ⟨⟨D1, a1.exx e, b1⟩, ⟨D2, a2.exx e, b2⟩, ⟨f3, e _ _ a3, b3⟩, ⟨D4, a4.exx e, b4⟩, ⟨D5, a5.exx e, b5⟩, ⟨D6, a6.exx e, b6⟩, ⟨D7, a7.exx e, b7⟩, ?_⟩
  intro i hi
  obtain ⟨D, a, b⟩ := a8 i hi
  exact ⟨D, a.exx e, b⟩
theorem RC.exx {A : AA} {b : Bool} {mk : Nat → Option Nat} (r : RC A b mk h) (e : Ex h h') : RC A b mk h' := by
  obtain ⟨⟨D1, a1, b1⟩, ⟨D2, a2, b2⟩, ⟨D3, a3, b3⟩, ⟨D4, a4⟩, ⟨D5, a5, b5⟩, ⟨D6, a6, b6⟩, a7, ⟨a8, a9, a10, a11⟩, ⟨D12, a12⟩, ⟨D13, a13⟩, ⟨f14, a14⟩, ⟨f15, a15⟩, a16⟩ := r
  refine ⟨⟨D1, a1.exx e, b1⟩, ⟨D2, a2.exx e, b2⟩, ⟨D3, a3.exx e, b3⟩, ⟨D4, a4.exx e⟩, ⟨D5, a5.exx e, b5⟩, ⟨D6, a6.exx e, b6⟩, a7.exx e, ⟨e _ _ a8, ?_, ?_, a11⟩, ⟨D12, a12.exx e⟩, ⟨D13, a13.exx e⟩, ⟨f14, e _ _ a14⟩, ⟨f15, e _ _ a15⟩, ?_⟩
  · intro m hm q hq
    obtain ⟨c1, I, S, c2⟩ := a9 m hm q hq
    exact ⟨c1, I, S, c2.exx e⟩
  · intro m hm S hS
    obtain ⟨q, c1, c2⟩ := a10 m hm S hS
    exact ⟨q, c1, c2.exx e⟩
  · have := ln_of (e 105 _ (List.getElem?_eq_getElem (show 105 < h.length by omega)))
    omega
theorem Ex.nmd (e : Ex h h') (hl : 106 ≤ h.length) : Fr (fun x => ¬ Md x) h h' := by
  intro a ha
  have : Md a := Classical.not_not.mp ha
  unfold Md at this
  rw [List.getElem?_eq_getElem (show a < h.length by omega)]
  exact e a _ (List.getElem?_eq_getElem (show a < h.length by omega))
end Exs
section CGives
variable {N : Nat} {A : AA}
theorem c_gives (hN : 2000 ≤ N) (hA' : AOk A) (r g gap : Int32) {h : PH} (q : RepC A h) : ∃ h', f_X11_gives N 0 r g gap h = some (givesS A r g gap, h') ∧ RepC A h' ∧ Fr (fun x => ¬ Md x) h h' := by
  obtain ⟨b, mk, q⟩ := q
  have b1 := hA'.1.1
  have b2 := hA'.1.2.1
  have b3 := hA'.1.2.2.1
  have ql := q.2.2.2.2.2.2.2.2.2.2.2.2
  have cl := cu_lt b
  obtain ⟨E, e1, e2⟩ := q.innR
  obtain ⟨D, d1, d2⟩ := q.hous
  obtain ⟨K, k1⟩ := q.2.2.2.1
  have bad : ∃ h', (some (none, h ++ [.inr (13, [])]) : Option (Option Int32 × PH)) = some (none, h') ∧ RepC A h' ∧ Fr (fun x => ¬ Md x) h h' := ⟨_, rfl, ⟨b, mk, q.exx (Ex.app _ _)⟩, (Ex.app _ _).nmd ql⟩
  unfold f_X11_gives f_X11_gives_24 f_X11_gives_60 givesS
  rw [q.is11, gg_t, c_isRule hA' q, gc_s]
  cases z1 : isN r (iK (aI A)) with
  | false =>
    rw [if_pos (eBf _ rfl)]
    exact bad
  | true =>
    rw [if_neg (eBt _ rfl), q.is11, gg_t, c_isGuest hA' q, gc_s]
    cases z2 : isN g (iG (aI A)) with
    | false =>
      rw [if_pos (eBf _ rfl)]
      exact bad
    | true =>
      rw [if_neg (eBt _ rfl), q.is11, gg_t, c_isRoom hA' q, gc_s]
      cases z3 : isN gap (iR (aI A)) with
      | false =>
        rw [if_pos (eBf _ rfl)]
        exact bad
      | true =>
        obtain ⟨k, hk, rfl⟩ := isN_t (by omega) z1
        obtain ⟨x, hx, rfl⟩ := isN_t (by omega) z2
        obtain ⟨p, hp, rfl⟩ := isN_t (by omega) z3
        rw [if_neg (eBt _ rfl), q.stt, gb_s, q.e9.2.2.1, gb_s, d1.gR (k := 1) rfl rfl, gb_s, d1.aI (j := 1) rfl (ixn (by omega) (by omega)), gb_s, i_okc (by omega), d2.1.2.1 x (by omega), i_okc (by omega), i_okc (by omega)]
        have tt : (true && true && true) = true := rfl
        rw [if_pos tt]
        cases hr : roomS (aI A) (hA A) x with
        | none =>
          rw [eO_n, if_pos rfl]
          exact bad
        | some y =>
          have yl := (room_s hr).1
          rw [eO_s, if_neg (by rw [n_m1 (by omega)]; exact id)]
          by_cases c : y = p
          · subst c
            rw [if_pos rfl]
            show ∃ h', _ = some ((if y = y then none else _), h') ∧ _
            rw [if_pos rfl]
            exact bad
          · show ∃ h', _ = some ((if y = p then none else some (valS (aI A) (hA A) k x y p)), h') ∧ _
            rw [if_neg c, if_neg (of_eq_false (neqF c (by omega) (by omega)))]
            obtain ⟨K', v1⟩ := c_value (N := N) hN k1 e1 e2 d1 (by omega) (by omega) (rule := k) (g := x) (here := y) (gap := p) (mv := hM (hA A) x) hk hx yl hp (by rw [d2.1.2.1 x (by omega), hr, eO_s]) (d2.1.2.2.1 x (by omega))
            have f1 : Fr (fun x => 4 ≤ x ∧ x < 7) h (pt sX7 4 K' h) := Fr.of (fun x x1 x2 => by simp only [z7] at x2; omega)
            refine ⟨pt sX7 4 K' h, ?_, ⟨b, mk, ?_⟩, f1.nmd (fun x hx => by omega)⟩
            · rw [q.mach, gb_s, q.cur, gb_s, gb_s, q.e9.2.2.1, gb_s, k1.is rfl, gg_t, v1, gc_s]
              rfl
            · exact q.sc (f1.up (fun x hx => by omega)) ⟨K', k1.p2⟩ (q.2.2.2.2.2.2.2.2.1.fr f1 (fun x _ _ => by omega)) (q.2.2.2.2.2.2.2.2.2.1.fr f1 (fun x _ _ => by omega)) (q.2.2.2.2.2.2.2.2.2.2.1.fr f1 (by omega)) (q.2.2.2.2.2.2.2.2.2.2.2.1.fr f1 (by omega))
end CGives

