/-! The component: letter, trunk: the calls -/
section CTrunk
variable {N : Nat} {h : PH} {H : HA} {G : OD} {d : Nat}
theorem or_0 (x : Int32) : x ||| 0 = x := by
  apply bv_ext
  intro i hi
  rw [Int32.toBitVec_or, BitVec.getLsbD_or]
  have : (0 : Int32).toBitVec.getLsbD i = false := by
    have : (0 : Int32) = Int32.ofNat 0 := rfl
    rw [this, bv_n]
    simp
  rw [this, Bool.or_false]
/-- the one in the room, as the component has it -/
def oI (s : WS) (o si : Int32) : Prop := match s.2 with
  | none => o = -1
  | some x => o = Int32.ofNat x.1 ∧ si = Int32.ofNat x.2 ∧ x.1 < 10 ∧ x.2 < 2000000
theorem c_bitIf {s : WS} {o si : Int32} (ho : oI s o si) {gone f : Nat} (hg : gone < 2000000) (hf : f < 2000000) : ∃ v, f_X0_bitIfStayed N o si (Int32.ofNat gone) (Int32.ofNat f) h = some (v, h) ∧ Int32.ofNat (msk s.1 10) ||| v = Int32.ofNat (msk (adS s gone f) 10) := by
  unfold f_X0_bitIfStayed f_X0_bitIfStayed_21 f_X0_bitIfStayed_22
  unfold oI at ho
  unfold adS
  cases hs : s.2 with
  | none =>
    rw [hs] at ho
    have ho : o = -1 := ho
    refine ⟨0, ?_, or_0 _⟩
    rw [if_pos ho]
  | some x =>
    rw [hs] at ho
    obtain ⟨h1, h2, h3, h4⟩ := ho
    rw [h1, h2, if_neg (by rw [n_m1 (by omega)]; exact id)]
    show ∃ v, _ ∧ _ = Int32.ofNat (msk (if x.2 < gone ∧ f < gone then fu s.1 x.1 true else s.1) 10)
    by_cases c1 : gone ≤ x.2
    · rw [if_pos (of_eq_true (nleT c1 (by omega) (by omega))), if_neg (fun z => by omega)]
      exact ⟨0, rfl, or_0 _⟩
    · rw [if_neg (of_eq_false (nleF c1 (by omega) (by omega)))]
      by_cases c2 : gone ≤ f
      · rw [if_pos (of_eq_true (nleT c2 (by omega) (by omega))), if_neg (fun z => by omega)]
        exact ⟨0, rfl, or_0 _⟩
      · rw [if_neg (of_eq_false (nleF c2 (by omega) (by omega))), if_pos ⟨by omega, by omega⟩]
        exact ⟨_, rfl, by rw [shl1 x.1 (by omega), msk_or _ (by omega) (by omega)]⟩
theorem c_within (hN : 2000 ≤ N) (g : At sX0 d G h) (r : RepD H G) (hl : (hL H).length ≤ 1000) (hn : ∀ (k : Nat) (x : Go), (hL H)[k]? = some x → GoN x) {ro f t : Nat} (hr : ro < 10) (hf : f < 1000000) (ht : t < 1000000) : f_X0_occupantsWithin N d (Int32.ofNat ro) (Int32.ofNat f) (Int32.ofNat t) h = some (Int32.ofNat (msk (wiR ro f t (hL H) (fun _ => false, none)) 10), h) := by
  have lp : ∀ n k mm (s : WS) (o si : Int32), k + n = (hL H).length → n < mm → oI s o si → gi (fun zk zs => f_X0_occupantsWithin_12 N zk zs.1 zs.2.1 zs.2.2.1 zs.2.2.2.1 zs.2.2.2.2.1 zs.2.2.2.2.2.1 zs.2.2.2.2.2.2.1 zs.2.2.2.2.2.2.2.1 zs.2.2.2.2.2.2.2.2) mm (d, Int32.ofNat ro, Int32.ofNat f, Int32.ofNat t, Int32.ofNat (msk s.1 10), o, si, Int32.ofNat k, h) = some (Int32.ofNat (msk (wiR ro f t ((hL H).drop k) s) 10), h) := by
    intro n
    induction n with
    | zero =>
      intro k mm s o si hk hm ho
      have : k = (hL H).length := by omega
      subst this
      obtain ⟨v, v1, v2⟩ := c_bitIf (N := N) (h := h) ho (gone := t + 1) (f := f) (by omega) (by omega)
      obtain ⟨mm, rfl⟩ : ∃ j, mm = j + 1 := ⟨mm - 1, by omega⟩
      rw [gi_1, List.drop_length]
      dsimp only
      unfold f_X0_occupantsWithin_12 f_X0_occupantsWithin_98
      rw [g.gI (k := 1) rfl rfl, gb_s, r.1, if_pos (of_eq_true (nleT (Nat.le_refl _) (by omega) (by omega))), n_add1, v1, gc_s, v2]
      rfl
    | succ n ih =>
      intro k mm s o si hk hm ho
      have hkl : k < (hL H).length := by omega
      obtain ⟨x, hx⟩ : ∃ x, (hL H)[k]? = some x := ⟨_, List.getElem?_eq_getElem hkl⟩
      have ed : (hL H).drop k = x :: (hL H).drop (k + 1) := by
        rw [List.drop_eq_getElem_cons hkl]
        rw [List.getElem?_eq_getElem hkl] at hx
        cases hx
        rfl
      have xn := hn k x hx
      obtain ⟨c1, c2, c3, c4, c5⟩ := c_dAt (N := N) g r hx (by omega) xn
      have xb := xn.2.2.2
      have x1 := xn.1
      obtain ⟨mm, rfl⟩ : ∃ j, mm = j + 1 := ⟨mm - 1, by omega⟩
      have ih2 := fun s o si => ih (k + 1) mm s o si (by omega) (by omega)
      rw [gi_1, ed]
      generalize hz : gi _ mm = zk at ih2
      dsimp only
      unfold f_X0_occupantsWithin_12 f_X0_occupantsWithin_92 wiR
      rw [g.gI (k := 1) rfl rfl, gb_s, r.1, if_neg (of_eq_false (nleF (by omega) (by omega) (by omega))), g.is rfl, gg_t, c4, gc_s]
      by_cases w : t < x.2.2.2.1
      · obtain ⟨v, v1, v2⟩ := c_bitIf (N := N) (h := h) ho (gone := t + 1) (f := f) (by omega) (by omega)
        unfold f_X0_occupantsWithin_98
        rw [if_pos (of_eq_true (nltT w (by omega) (by omega))), if_pos w, n_add1, v1, gc_s, v2]
      · rw [if_neg (of_eq_false (nltF w (by omega) (by omega))), if_neg w, g.is rfl, gg_t, c2, gc_s]
        by_cases w1 : x.2.1 = some ro
        · have ew : wiF ro f s x = (adS s x.2.2.2.1 f, none) := by unfold wiF; rw [if_pos w1]
          obtain ⟨v, v1, v2⟩ := c_bitIf (N := N) (h := h) ho (gone := x.2.2.2.1) (f := f) (by omega) (by omega)
          have ih3 := ih2 (adS s x.2.2.2.1 f, none) (-1) si rfl
          have e0 : eO x.2.1 = Int32.ofNat ro := by rw [w1]; rfl
          rw [if_pos e0, g.is rfl, gg_t, c4, gc_s, v1, gc_s, gl_s, gl_s, n_add1, v2, ew]
          exact ih3
        · have n0 : ¬ eO x.2.1 = Int32.ofNat ro := by rw [eO_eq (pI_s xn.2.1) (by omega)]; exact w1
          rw [if_neg n0, g.is rfl, gg_t, c3, gc_s]
          by_cases w2 : x.2.2.1 = some ro
          · have ew : wiF ro f s x = (s.1, some (x.1, x.2.2.2.2)) := by unfold wiF; rw [if_neg w1, if_pos w2]
            have ih3 := ih2 (s.1, some (x.1, x.2.2.2.2)) (Int32.ofNat x.1) (Int32.ofNat x.2.2.2.2) ⟨rfl, rfl, by omega, by omega⟩
            have e0 : eO x.2.2.1 = Int32.ofNat ro := by rw [w2]; rfl
            rw [if_pos e0, g.is rfl, gg_t, c1, gc_s, g.is rfl, gg_t, c5, gc_s, gl_s, n_add1, ew]
            exact ih3
          · have n1 : ¬ eO x.2.2.1 = Int32.ofNat ro := by rw [eO_eq (pI_s xn.2.2.1) (by omega)]; exact w2
            have ew : wiF ro f s x = s := by unfold wiF; rw [if_neg w1, if_neg w2]
            have ih3 := ih2 s o si ho
            rw [if_neg n1, gl_s, n_add1, ew]
            exact ih3
  have := lp (hL H).length 0 N (fun _ => false, none) (-1) 0 (by omega) (by omega) rfl
  rw [List.drop_zero] at this
  have e : Int32.ofNat (msk (fun _ => false) 10) = 0 := by decide
  have this : gi (fun zk zs => f_X0_occupantsWithin_12 N zk zs.1 zs.2.1 zs.2.2.1 zs.2.2.2.1 zs.2.2.2.2.1 zs.2.2.2.2.2.1 zs.2.2.2.2.2.2.1 zs.2.2.2.2.2.2.2.1 zs.2.2.2.2.2.2.2.2) N (d, Int32.ofNat ro, Int32.ofNat f, Int32.ofNat t, Int32.ofNat (msk (fun _ => false) 10), -1, 0, 0, h) = _ := this
  rw [e] at this
  exact this
end CTrunk
section CLetter
variable {N : Nat} {A : AA}
theorem c_trunk (hN : 2000 ≤ N) (hA' : AOk A) (r f t : Int32) : CAns A A (f_X11_trunk N 0 r f t) (ansTrunk A r f t) := by
  refine CAns.ro (fun h q => ?_)
  obtain ⟨b, mk, q⟩ := q
  obtain ⟨G, g1, g2⟩ := q.diar
  obtain ⟨a1, a2, a3⟩ := hA_all hA'
  have vl := (VL_run hA'.1 (fun e => e.2.2.2) hA'.2.1.2.2.1).2
  have b1 := hA'.1.1
  unfold f_X11_trunk f_X11_trunk_27 ansTrunk
  rw [q.is11, gg_t, c_isRoom hA' q, gc_s]
  cases z1 : isN r (iR (aI A)) with
  | false => rw [if_pos (eBf _ rfl)]; rfl
  | true =>
    rw [if_neg (eBt _ rfl), c_isAsked, gc_s]
    cases z2 : isN f 1000000 with
    | false => rw [if_pos (eBf _ rfl)]; rfl
    | true =>
      rw [if_neg (eBt _ rfl), c_isAsked, gc_s]
      cases z3 : isN t 1000000 with
      | false => rw [if_pos (eBf _ rfl)]; rfl
      | true =>
        obtain ⟨x, hx, rfl⟩ := isN_t (by omega) z1
        obtain ⟨y, hy, rfl⟩ := isN_t (by omega) z2
        obtain ⟨z, hz, rfl⟩ := isN_t (by omega) z3
        rw [if_neg (eBt _ rfl)]
        by_cases c : y ≤ z
        · have c' : Int32.ofNat y ≤ Int32.ofNat z := of_eq_true (nleT c (by omega) (by omega))
          have ct : (true && true && true && decide (Int32.ofNat y ≤ Int32.ofNat z)) = true := by rw [decide_eq_true c']; rfl
          rw [if_pos c', if_pos ct, q.stt, gb_s, q.e9.2.2.2.2.1, gb_s, g1.is rfl, gg_t, c_within hN g1 g2 a2 a3 (by omega) (by omega) (by omega), gc_s, i_okc (by omega), i_okc (by omega), i_okc (by omega)]
          congr 2
          congr 1
          exact msk_ext (fun k _ => tr_eq a1 vl c (by omega) k)
        · have c' : ¬ Int32.ofNat y ≤ Int32.ofNat z := of_eq_false (nleF c (by omega) (by omega))
          have ct : ¬ (true && true && true && decide (Int32.ofNat y ≤ Int32.ofNat z)) = true := by rw [decide_eq_false c']; decide
          rw [if_neg c', if_neg ct]
theorem c_letter (hN : 2000 ≤ N) (hA' : AOk A) (g m bb : Int32) : CAns A A (f_X11_letter N 0 g m bb) (ansLetter A g m bb) := by
  refine CAns.ro (fun h q => ?_)
  obtain ⟨b, mk, q⟩ := q
  obtain ⟨G, g1, g2⟩ := q.diar
  obtain ⟨a1, a2, a3⟩ := hA_all hA'
  have b1 := hA'.1.1
  have b2 := hA'.1.2.1
  unfold f_X11_letter f_X11_letter_27 f_X11_letter_69 ansLetter
  rw [q.is11, gg_t, c_isGuest hA' q, gc_s]
  cases z1 : isN g (iG (aI A)) with
  | false => rw [if_pos (eBf _ rfl)]; rfl
  | true =>
    rw [if_neg (eBt _ rfl), c_isAsked, gc_s]
    cases z2 : isN m 1000000 with
    | false => rw [if_pos (eBf _ rfl)]; rfl
    | true =>
      rw [if_neg (eBt _ rfl), c_isAsked, gc_s]
      cases z3 : isN bb 1000000 with
      | false => rw [if_pos (eBf _ rfl)]; rfl
      | true =>
        obtain ⟨x, hx, rfl⟩ := isN_t (by omega) z1
        obtain ⟨y, hy, rfl⟩ := isN_t (by omega) z2
        obtain ⟨z, hz, rfl⟩ := isN_t (by omega) z3
        rw [if_neg (eBt _ rfl)]
        by_cases c : y ≤ z
        · have c' : Int32.ofNat y ≤ Int32.ofNat z := of_eq_true (nleT c (by omega) (by omega))
          have ct : (true && true && true && decide (Int32.ofNat y ≤ Int32.ofNat z)) = true := by rw [decide_eq_true c']; rfl
          rw [if_pos c', if_pos ct, q.stt, gb_s, q.e9.2.2.2.2.1, gb_s, g1.is rfl, gg_t, c_placeOf hN g1 g2 a2 a3 (by omega) (by omega), gc_s, q.is11, gg_t, c_isRoom hA' q, gc_s, i_okc (by omega), i_okc (by omega), i_okc (by omega)]
          have neg : ∀ v : Int32, v = -1 ∨ v = -2 → ¬ 0 ≤ v ∧ isN v (iR (aI A)) = false := by
            intro v hv
            have : ¬ 0 ≤ v := by rcases hv with z | z <;> rw [z] <;> decide
            exact ⟨this, decide_eq_false (fun w => this w.1)⟩
          rcases plS_c a1.2.1 x y with p | p | ⟨r, hr, p⟩
          · rw [p]
            obtain ⟨n1, n2⟩ := neg (-1) (Or.inl rfl)
            rw [n2, if_neg n1, if_pos (eBf _ rfl)]
          · rw [p]
            obtain ⟨n1, n2⟩ := neg (-2) (Or.inr rfl)
            rw [n2, if_neg n1, if_pos (eBf _ rfl)]
          · rw [p, isN_of hr (by omega), if_neg (eBt _ rfl), if_pos (by rw [n_ge0 (by omega)]; trivial), q.stt, gb_s, q.e9.2.2.2.2.1, gb_s, g1.is rfl, gg_t, c_occupantOf hN g1 g2 a2 a3 (by omega) (by omega), gc_s, i_okc (by omega), who_eq a1 hr]
        · have c' : ¬ Int32.ofNat y ≤ Int32.ofNat z := of_eq_false (nleF c (by omega) (by omega))
          have ct : ¬ (true && true && true && decide (Int32.ofNat y ≤ Int32.ofNat z)) = true := by rw [decide_eq_false c']; decide
          rw [if_neg c', if_neg ct]
end CLetter

