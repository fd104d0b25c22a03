/-! The component: leaving -/
theorem LC.mono {n m : Nat} {H : HA} (h : LC n H) (hm : m ≤ n) : LC m H := by unfold LC at *; omega
section CLeave
variable {N : Nat} {h : PH} {I : IA}
def hh (p m : Nat) (dia : Option Nat) (h : PH) (D G K : OD) : PH := pt sX1 p D (pd dia G (pt sX7 m K h))
/-- what is said of the places -/
def LvP (p q m : Nat) (dia : Option Nat) (h : PH) : Prop := p + 5 ≤ h.length ∧ m + 3 ≤ h.length ∧ (p + 5 ≤ q ∨ q + 7 ≤ p) ∧ (m + 3 ≤ q ∨ q + 7 ≤ m) ∧ (m + 3 ≤ p ∨ p + 5 ≤ m) ∧ ∀ d, dia = some d → d + 2 ≤ h.length ∧ (d + 2 ≤ p ∨ p + 5 ≤ d) ∧ (d + 2 ≤ q ∨ q + 7 ≤ d) ∧ (d + 2 ≤ m ∨ m + 3 ≤ d)
theorem hh_m {p q m : Nat} {dia : Option Nat} {D G K K' : OD} (hp : LvP p q m dia h) : pt sX7 m K' (hh p m dia h D G K) = hh p m dia h D G K' := by
  obtain ⟨l1, l2, l3, l4, l5, l6⟩ := hp
  unfold hh
  rw [pt_comm (S := sX7) (S' := sX1) (by simp only [z1, z7]; omega)]
  congr 1
  cases dia with
  | none => exact pt_pt _ _ _ _ _
  | some d =>
    have := (l6 d rfl).2.2.2
    show pt sX7 m K' (pt sX0 d G (pt sX7 m K h)) = pt sX0 d G (pt sX7 m K' h)
    rw [pt_comm (S := sX7) (S' := sX0) (by simp only [z0, z7]; omega), pt_pt]
theorem hh_at {p q m : Nat} {dia : Option Nat} {D G K E : OD} (hp : LvP p q m dia h) (hE : At sX2 q E h) : At sX2 q E (hh p m dia h D G K) ∧ At sX7 m K (hh p m dia h D G K) ∧ At sX1 p D (hh p m dia h D G K) := by
  obtain ⟨l1, l2, l3, l4, l5, l6⟩ := hp
  refine ⟨?_, ?_, ?_⟩
  · exact ((hE.out (by simp only [z2, z7]; omega)).pd (fun d hd => by have := (l6 d hd).2.2.1; simp only [z2]; omega)).out (by simp only [z1, z2]; omega)
  · exact ((At_pt l2).pd (fun d hd => by have := (l6 d hd).2.2.2; simp only [z7]; omega)).out (by simp only [z1, z7]; omega)
  · exact At_pt (by rw [pd_len, pt_len]; exact l1)
def nxG (H : HA) (o : Option Nat) : Int32 := match o with
  | none => -1
  | some r => eO (hO H r)
theorem c_next {p q m : Nat} {E : OD} {dia : Option Nat} (hN : 2000 ≤ N) (hp : LvP p q m dia h) (hE : At sX2 q E h) (hI : RepIC I E) {H : HA} {D G K : OD} (hH : HOk I H) (hR : RepG I H D) {rule gap : Nat} (hr : rule < iK I) (hg : gap < iR I) :
    ∃ K', f_X1_nextFor N p q (Int32.ofNat gap) (Int32.ofNat rule) m (hh p m dia h D G K) = some (nxG H (bestS I H rule gap (iR I - (gap + 1))).1, hh p m dia h D G K') := by
  have i1 := hI.1.1
  have i2 := hI.1.2.1
  have lp : ∀ d j mm K, j + d = iR I - (gap + 1) → d < mm → ∃ K', gi (fun zk zs => f_X1_nextFor_11 N zk zs.1 zs.2.1 zs.2.2.1 zs.2.2.2.1 zs.2.2.2.2.1 zs.2.2.2.2.2.1 zs.2.2.2.2.2.2.1 zs.2.2.2.2.2.2.2.1 zs.2.2.2.2.2.2.2.2) mm (p, q, Int32.ofNat gap, Int32.ofNat rule, m, nxG H (bestS I H rule gap j).1, (bestS I H rule gap j).2, Int32.ofNat (gap + 1 + j), hh p m dia h D G K) = some (nxG H (bestS I H rule gap (iR I - (gap + 1))).1, hh p m dia h D G K') := by
    intro d
    induction d with
    | zero =>
      intro j mm K hj hm
      have : j = iR I - (gap + 1) := by omega
      subst this
      obtain ⟨a1, a2, a3⟩ := hh_at (D := D) (G := G) (K := K) hp hE
      refine ⟨K, ?_⟩
      obtain ⟨mm, rfl⟩ : ∃ k, mm = k + 1 := ⟨mm - 1, by omega⟩
      rw [gi_1]
      generalize hz : gi _ mm = zk
      dsimp only
      unfold f_X1_nextFor_11
      rw [a1.gI (k := 0) rfl rfl, gb_s, hI.2.1, if_pos (of_eq_true (nleT (by omega) (by omega) (by omega)))]
    | succ d ih =>
      intro j mm K hj hm
      obtain ⟨a1, a2, a3⟩ := hh_at (D := D) (G := G) (K := K) hp hE
      have q0 := hR.1 (gap + 1 + j) (by omega)
      obtain ⟨mm, rfl⟩ : ∃ k, mm = k + 1 := ⟨mm - 1, by omega⟩
      rw [gi_1]
      generalize hz : gi _ mm = zk
      dsimp only
      unfold f_X1_nextFor_11 f_X1_nextFor_63
      have bs : bestS I H rule gap (j + 1) = (match hO H (gap + 1 + j) with
        | none => bestS I H rule gap j
        | some g => if (bestS I H rule gap j).2 < valS I H rule g (gap + 1 + j) gap then (some (gap + 1 + j), valS I H rule g (gap + 1 + j) gap) else bestS I H rule gap j) := rfl
      rw [a1.gI (k := 0) rfl rfl, gb_s, hI.2.1, if_neg (of_eq_false (nleF (by omega) (by omega) (by omega))), a3.gR (k := 0) rfl rfl, gb_s, a3.aI (j := 0) rfl (ixn (by omega) (by omega)), gb_s, i_okc (by omega), q0]
      cases ho : hO H (gap + 1 + j) with
      | none =>
        rw [ho] at bs
        obtain ⟨K', b1⟩ := ih (j + 1) mm K (by omega) (by omega)
        rw [hz] at b1
        refine ⟨K', ?_⟩
        rw [eO_n, if_pos rfl, gl_s, n_add1]
        have bs : bestS I H rule gap (j + 1) = bestS I H rule gap j := bs
        rw [bs] at b1
        exact b1
      | some g =>
        rw [ho] at bs
        have gl := hH.lt ho
        have rm := (room_iff hH).mpr ho
        obtain ⟨K1, v1⟩ := c_value (N := N) hN a2 a1 hI a3 hp.2.2.2.1 hp.2.2.2.2.1 (rule := rule) (g := g) (here := gap + 1 + j) (gap := gap) (mv := hM H g) hr gl.2 gl.1 hg (by rw [hR.2.1 g (by omega), rm, eO_s]) (hR.2.2.1 g (by omega))
        rw [hh_m hp] at v1
        obtain ⟨K', b1⟩ := ih (j + 1) mm K1 (by omega) (by omega)
        rw [hz] at b1
        refine ⟨K', ?_⟩
        rw [eO_s, if_neg (by rw [n_m1 (by omega)]; exact id), a2.is rfl, gg_t, v1, gc_s]
        have ev : (runS (factS I (hM H g) g (gap + 1 + j) gap) [] (iCd I rule)).headD 0 = valS I H rule g (gap + 1 + j) gap := rfl
        rw [ev]
        have bs : bestS I H rule gap (j + 1) = if (bestS I H rule gap j).2 < valS I H rule g (gap + 1 + j) gap then (some (gap + 1 + j), valS I H rule g (gap + 1 + j) gap) else bestS I H rule gap j := bs
        by_cases c : (bestS I H rule gap j).2 < valS I H rule g (gap + 1 + j) gap
        · rw [if_pos c] at bs
          rw [bs] at b1
          have nx : nxG H (some (gap + 1 + j), valS I H rule g (gap + 1 + j) gap).1 = Int32.ofNat g := by
            show eO (hO H (gap + 1 + j)) = _
            rw [ho]
            rfl
          rw [nx] at b1
          rw [if_neg (by rw [i_lt] at c; rw [i_le]; omega), gl_s, n_add1]
          exact b1
        · rw [if_neg c] at bs
          rw [bs] at b1
          rw [if_pos (by rw [i_lt] at c; rw [i_le]; omega), gl_s, n_add1]
          exact b1
  obtain ⟨K', a1⟩ := lp (iR I - (gap + 1)) 0 N K (by omega) (by omega)
  refine ⟨K', ?_⟩
  unfold f_X1_nextFor
  rw [gl_s, n_add1]
  exact a1
theorem c_let36 {p q m : Nat} {E : OD} {dia : Option Nat} (hN : 2000 ≤ N) (hp : LvP p q m dia h) (hE : At sX2 q E h) (hI : RepIC I E) {rule n : Nat} (hr : rule < iK I) : ∀ (f fl gap : Nat) (H : HA) (D G K : OD) (mm : Nat), HOk I H → gap < iR I → hO H gap = none → RepG I H D → (∀ d, dia = some d → RepD H G ∧ LC (n + (iR I - 1 - gap)) H) → fl + f = iR I → f < mm →
    ∃ D' G' K', gi (fun zk zs => f_X1_letOut_36 N zk zs.1 zs.2.1 zs.2.2.1 zs.2.2.2.1 zs.2.2.2.2.1 zs.2.2.2.2.2.1 zs.2.2.2.2.2.2.1 zs.2.2.2.2.2.2.2) mm (p, q, Int32.ofNat rule, m, dia, Int32.ofNat gap, Int32.ofNat fl, hh p m dia h D G K) = some (hh p m dia h D' G' K') ∧ RepG I (fillS I rule f gap H) D' ∧ Keep [0, 1, 2, 3, 4, 5, 6, 7] D D' ∧ ∀ d, dia = some d → RepD (fillS I rule f gap H) G' ∧ LC n (fillS I rule f gap H) := by
  have i1 := hI.1.1
  have i2 := hI.1.2.1
  intro f
  induction f with
  | zero =>
    intro fl gap H D G K mm hH hg h0 hR hRD hf hm
    have : fl = iR I := by omega
    subst this
    obtain ⟨a1, a2, a3⟩ := hh_at (D := D) (G := G) (K := K) hp hE
    refine ⟨D, G, K, ?_, hR, Keep.rf, fun d hd => ⟨(hRD d hd).1, (hRD d hd).2.mono (by omega)⟩⟩
    obtain ⟨mm, rfl⟩ : ∃ k, mm = k + 1 := ⟨mm - 1, by omega⟩
    rw [gi_1]
    generalize hz : gi _ mm = zk
    dsimp only
    unfold f_X1_letOut_36
    rw [a1.gI (k := 0) rfl rfl, gb_s, hI.2.1, if_pos (of_eq_true (nleT (by omega) (by omega) (by omega)))]
  | succ f ih =>
    intro fl gap H D G K mm hH hg h0 hR hRD hf hm
    obtain ⟨a1, a2, a3⟩ := hh_at (D := D) (G := G) (K := K) hp hE
    obtain ⟨K1, n1⟩ := c_next (N := N) (dia := dia) (D := D) (G := G) (K := K) hN hp hE hI hH hR hr hg
    obtain ⟨b1, b2, b3⟩ := hh_at (D := D) (G := G) (K := K1) hp hE
    obtain ⟨mm, rfl⟩ : ∃ k, mm = k + 1 := ⟨mm - 1, by omega⟩
    rw [gi_1]
    generalize hz : gi _ mm = zk
    dsimp only
    unfold f_X1_letOut_36 fillS
    rw [a1.gI (k := 0) rfl rfl, gb_s, hI.2.1, if_neg (of_eq_false (nleF (by omega) (by omega) (by omega))), a3.is rfl, gg_t, n1, gc_s]
    cases hb : (bestS I H rule gap (iR I - (gap + 1))).1 with
    | none =>
      refine ⟨D, G, K1, ?_, hR, Keep.rf, fun d hd => ⟨(hRD d hd).1, (hRD d hd).2.mono (by omega)⟩⟩
      show (if (-1 : Int32) = -1 then _ else _) = _
      rw [if_pos rfl]
    | some r =>
      obtain ⟨c1, c2, c3⟩ := best_spec _ r hb
      obtain ⟨g, hg2⟩ := Option.ne_none_iff_exists'.mp c3
      have gl := hH.lt hg2
      have rm := (room_iff hH).mpr hg2
      have nx : nxG H (some r) = Int32.ofNat g := by
        show eO (hO H r) = _
        rw [hg2]
        rfl
      rw [nx, if_neg (by rw [n_m1 (by omega)]; exact id), b3.gR (k := 1) rfl rfl, gb_s, b3.aI (j := 1) rfl (ixn (by omega) (by omega)), gb_s, i_okc (by omega), hR.2.1 g (by omega), rm, eO_s, b3.is rfl, gg_t]
      have hG : GoOk I H g (some r) (some gap) := ⟨hH, gl.2, fun a ha => (by cases ha; exact ⟨gl.1, hg2⟩), fun z => (by cases z), fun a ha => (by cases ha; exact ⟨hg, h0⟩)⟩
      obtain ⟨l1, l2, l3, l4, l5, l6⟩ := hp
      obtain ⟨D2, G2, e1, e2, e3, e4⟩ := c_goQ (N := N) (h := pt sX7 m K1 h) (p := p) (q := q) (dia := dia) (n := n + (iR I - 1 - r)) (by rw [pt_len]; exact l1) (hE.out (by simp only [z2, z7]; omega)) hI l3 (fun d hd => by rw [pt_len]; exact ⟨(l6 d hd).1, (l6 d hd).2.1, (l6 d hd).2.2.1⟩) hR (fun d hd => ⟨(hRD d hd).1, (hRD d hd).2.mono (by omega)⟩) hG
      rw [eO_s] at e1
      have e1 : f_X1_go N p q (Int32.ofNat g) (Int32.ofNat gap) dia (hh p m dia h D G K1) = some (hh p m dia h D2 G2 K1) := e1
      have h3 := go_in hH (g := g) (fr := some r) (s := gap) (fun a ha => by cases ha; exact hg2) (fun z => by cases z) hg h0 gl.2
      obtain ⟨D', G', K', f1, f2, f3, f4⟩ := ih (fl + 1) r (goS I g (some r) (some gap) H) D2 G2 K1 mm h3.1 gl.1 (by rw [hO_go, oPut_ss, fu_at, if_neg (by omega), fu_at, if_pos rfl]) e2 e4 (by omega) (by omega)
      rw [hz] at f1
      refine ⟨D', G', K', ?_, ?_, e3.tr f3, ?_⟩
      · rw [e1, gb_s, gl_s, n_add1]
        exact f1
      · show RepG I (fillS I rule f r (goS I ((hO H r).getD 0) (some r) (some gap) H)) D'
        rw [hg2]
        exact f2
      · intro d hd
        show RepD (fillS I rule f r (goS I ((hO H r).getD 0) (some r) (some gap) H)) G' ∧ LC n (fillS I rule f r (goS I ((hO H r).getD 0) (some r) (some gap) H))
        rw [hg2]
        exact f4 d hd
/-- letting out -/
theorem c_letOut {p q m : Nat} {D E G K : OD} {dia : Option Nat} {H : HA} {n : Nat} (hN : 2000 ≤ N) (hp : LvP p q m dia h) (hE : At sX2 q E h) (hI : RepIC I E) {g a : Nat} (hH : HOk I H) (ha : hO H a = some g) {rule : Option Nat} (hr : ∀ k, rule = some k → k < iK I) (hR : RepH I H D) (hRD : ∀ d, dia = some d → RepD H G ∧ LC (n + 10) H) :
    ∃ D' G' K', f_X1_letOut N p q (Int32.ofNat g) (eO rule) m dia (hh p m dia h D G K) = some (hh p m dia h D' G' K') ∧ RepH I (leaveS I g rule H) D' ∧ ∀ d, dia = some d → RepD (leaveS I g rule H) G' ∧ LC n (leaveS I g rule H) := by
  obtain ⟨r1, r2, r3⟩ := hR
  have i1 := hI.1.1
  have i2 := hI.1.2.1
  have i3 := hI.1.2.2.1
  have gl := hH.lt ha
  have rm := (room_iff hH).mpr ha
  obtain ⟨a1, a2, a3⟩ := hh_at (D := D) (G := G) (K := K) hp hE
  have hp' := hp
  obtain ⟨l1, l2, l3, l4, l5, l6⟩ := hp
  have hG : GoOk I H g (some a) none := ⟨hH, gl.2, fun b hb => (by cases hb; exact ⟨gl.1, ha⟩), fun z => (by cases z), fun b hb => (by cases hb)⟩
  obtain ⟨D2, G2, e1, e2, e3, e4⟩ := c_goQ (N := N) (h := pt sX7 m K h) (p := p) (q := q) (dia := dia) (n := n + (iR I - 1 - a)) (by rw [pt_len]; exact l1) (hE.out (by simp only [z2, z7]; omega)) hI l3 (fun d hd => by rw [pt_len]; exact ⟨(l6 d hd).1, (l6 d hd).2.1, (l6 d hd).2.2.1⟩) r1 (fun d hd => ⟨(hRD d hd).1, (hRD d hd).2.mono (by omega)⟩) hG
  have e1 : f_X1_go N p q (Int32.ofNat g) (-1) dia (hh p m dia h D G K) = some (hh p m dia h D2 G2 K) := e1
  obtain ⟨b1, b2, b3⟩ := hh_at (D := D2) (G := G2) (K := K) hp' hE
  have oc := occ_leave hH ha rule
  have e8 : oi D2 8 = Int32.ofNat (occN (hO H) (iR I)) := by rw [e3.i (by decide)]; exact r2
  have e9 : oi D2 9 = oi D 9 := e3.i (by decide)
  have w8 : pfV 1 8 p (.int (oi D2 8 - 1)) (hh p m dia h D2 G2 K) = some (hh p m dia h (si D2 8 (oi D2 8 - 1)) G2 K) := by
    unfold hh
    exact qs1_8 (by rw [pd_len, pt_len]; exact l1)
  have v8 : oi D2 8 - 1 = Int32.ofNat (occN (hO (leaveS I g rule H)) (iR I)) := by
    rw [e8]
    show Int32.ofNat _ - Int32.ofNat 1 = _
    rw [n_sub (by omega)]
    congr 1
    omega
  have hd1 := go_out hH ha
  unfold f_X1_letOut
  rw [a3.gR (k := 1) rfl rfl, gb_s, a3.aI (j := 1) rfl (ixn (by omega) (by omega)), gb_s, i_okc (by omega), r1.2.1 g (by omega), rm, eO_s, a3.is rfl, gg_t, e1, gb_s, b3.gI (k := 8) rfl rfl, gb_s, w8, gb_s]
  cases rule with
  | none =>
    have el : leaveS I g none H = goS I g (some a) none H := by
      unfold leaveS
      rw [rm]
    rw [eO_n, if_pos rfl]
    refine ⟨si D2 8 (oi D2 8 - 1), G2, K, rfl, ⟨?_, ?_, ?_⟩, ?_⟩
    · rw [el]; exact e2
    · rw [oi_si, if_pos rfl]; exact v8
    · rw [hE_leave, oi_si, if_neg (by decide), e9]; exact r3
    · intro d hd
      rw [el]
      exact ⟨(e4 d hd).1, (e4 d hd).2.mono (by omega)⟩
  | some k =>
    have hk := hr k rfl
    have el : leaveS I g (some k) H = fillS I k (iR I) a (goS I g (some a) none H) := by
      unfold leaveS
      rw [rm]
    rw [eO_s, if_neg (by rw [n_m1 (by omega)]; exact id)]
    obtain ⟨D', G', K', f1, f2, f3, f4⟩ := c_let36 (N := N) hN hp' hE hI (n := n) hk (iR I) 0 a (goS I g (some a) none H) (si D2 8 (oi D2 8 - 1)) G2 K N hd1.1 gl.1 (by rw [hO_go, oPut_sn, fu_at, if_pos rfl]) e2 e4 (by omega) (by omega)
    have f1 : gi (fun zk zs => f_X1_letOut_36 N zk zs.1 zs.2.1 zs.2.2.1 zs.2.2.2.1 zs.2.2.2.2.1 zs.2.2.2.2.2.1 zs.2.2.2.2.2.2.1 zs.2.2.2.2.2.2.2) N (p, q, Int32.ofNat k, m, dia, Int32.ofNat a, 0, hh p m dia h (si D2 8 (oi D2 8 - 1)) G2 K) = _ := f1
    refine ⟨D', G', K', f1, ⟨?_, ?_, ?_⟩, ?_⟩
    · rw [el]; exact f2
    · rw [f3.i (by decide), oi_si, if_pos rfl]; exact v8
    · rw [hE_leave, f3.i (by decide), oi_si, if_neg (by decide), e9]; exact r3
    · intro d hd
      rw [el]
      exact f4 d hd
end CLeave

