/-! What the goings say of places: by the guest, by the room -/
def posF (g : Nat) (p : Option Nat) (x : Go) : Option Nat := if x.1 = g then x.2.2.1 else p
def posL (L : List Go) (g : Nat) : Option Nat := L.foldl (posF g) none
def occC (r : Nat) (o : Option Nat) (x : Go) : Option Nat := if x.2.2.1 = some r then some x.1 else if x.2.1 = some r then none else o
def occL (L : List Go) (r : Nat) : Option Nat := L.foldl (occC r) none
theorem pl_done {g m : Nat} : ∀ (L : List Go) (p : Int32) (o : Option Nat), (∀ x, x ∈ L → x.2.2.2.1 < x.2.2.2.2 ∧ x.2.2.2.2 ≤ m) → p = eO o → L.foldl (plF g m) p = eO (L.foldl (posF g) o) := by
  intro L
  induction L with
  | nil => intro p o _ h; exact h
  | cons x L ih =>
    intro p o hx h
    have h1 := hx x (List.mem_cons_self ..)
    rw [List.foldl_cons, List.foldl_cons]
    refine ih _ _ (fun y hy => hx y (List.mem_cons_of_mem _ hy)) ?_
    unfold plF posF
    by_cases w : x.1 = g
    · rw [if_pos ⟨w, by omega⟩, if_neg (by omega), if_pos w]
    · rw [if_neg (fun z => w z.1), if_neg w]
      exact h
theorem oc_done {r m : Nat} : ∀ (L : List Go) (o : Option Nat), (∀ x, x ∈ L → x.2.2.2.1 < x.2.2.2.2 ∧ x.2.2.2.2 ≤ m) → L.foldl (occF r m) o = L.foldl (occC r) o := by
  intro L
  induction L with
  | nil => intro o _; rfl
  | cons x L ih =>
    intro o hx
    have h1 := hx x (List.mem_cons_self ..)
    rw [List.foldl_cons, List.foldl_cons, ih _ (fun y hy => hx y (List.mem_cons_of_mem _ hy))]
    congr 1
    unfold occF occC
    by_cases w : x.2.2.1 = some r
    · rw [if_pos ⟨w, h1.2⟩, if_pos w]
    · rw [if_neg (fun z => w z.1), if_neg w]
      by_cases w2 : x.2.1 = some r
      · rw [if_pos ⟨w2, by omega⟩, if_pos w2]
      · rw [if_neg (fun z => w2 z.1), if_neg w2]
/-- the goings fit the house -/
def QL (I : IA) (H : HA) : Prop := HOk I H ∧ LG I H ∧ (∀ g, posL (hL H) g = roomS I H g) ∧ (∀ r, occL (hL H) r = hO H r) ∧ ∀ m r g, r < iR I → ((hL H).foldl (occF r m) none = some g ↔ plS (hL H) g m = Int32.ofNat r)
theorem posL_go {I : IA} {H : HA} {g : Nat} {fr to : Option Nat} (x : Nat) : posL (hL (goS I g fr to H)) x = if g = x then to else posL (hL H) x := by
  unfold posL
  rw [hL_go, List.foldl_append]
  rfl
theorem occL_go {I : IA} {H : HA} {g : Nat} {fr to : Option Nat} (r : Nat) : occL (hL (goS I g fr to H)) r = if to = some r then some g else if fr = some r then none else occL (hL H) r := by
  unfold occL
  rw [hL_go, List.foldl_append]
  rfl
theorem LG.mem {I : IA} {H : HA} (h : LG I H) {m : Nat} (hm : hC H ≤ m) : ∀ x, x ∈ hL H → x.2.2.2.1 < x.2.2.2.2 ∧ x.2.2.2.2 ≤ m := by
  intro x hx
  obtain ⟨k, hk⟩ := List.getElem?_of_mem hx
  have := h.1 k x hk
  exact ⟨this.2.2.2.1, by omega⟩
theorem QL_go {I : IA} (hI : IOk I) {H : HA} {g : Nat} {fr to : Option Nat} (hG : GoOk I H g fr to) (h : QL I H) : QL I (goS I g fr to H) := by
  obtain ⟨q1, q2, q3, q4, q5⟩ := h
  have q2' := LG_go hI hG q2
  have ro := room_go hG
  have gr := go_room hG
  have mi := miD_le hI hG.2.1 hG.fr hG.to
  have i1 := hI.1
  obtain ⟨g1, g2, g3, g4, g5⟩ := hG
  have hk : HOk I (goS I g fr to H) := by
    cases to with
    | some s => exact (go_in g1 (fun r hr => (g3 r hr).2) g4 (g5 s rfl).1 (g5 s rfl).2 g2).1
    | none =>
      cases fr with
      | some r => exact (go_out g1 (g3 r rfl).2).1
      | none => exact g1
  have c3 : ∀ x, posL (hL (goS I g fr to H)) x = roomS I (goS I g fr to H) x := by
    intro x
    rw [posL_go, ro x, q3 x]
    by_cases w : x = g
    · rw [if_pos w, if_pos w.symm]
    · rw [if_neg w, if_neg (fun z => w z.symm)]
  have c4 : ∀ r, occL (hL (goS I g fr to H)) r = hO (goS I g fr to H) r := by
    intro r
    rw [occL_go, hO_go, q4 r]
    cases fr with
    | none =>
      cases to with
      | none => rfl
      | some s =>
        rw [oPut_ns, fu_at]
        by_cases w : r = s
        · rw [if_pos w, if_pos (by rw [w])]
        · rw [if_neg w, if_neg (fun z => w (by cases z; rfl)), if_neg (fun z => by cases z)]
    | some f =>
      cases to with
      | none =>
        rw [oPut_sn, fu_at, if_neg (fun z => by cases z)]
        by_cases w : r = f
        · rw [if_pos w, if_pos (by rw [w])]
        · rw [if_neg w, if_neg (fun z => w (by cases z; rfl))]
      | some s =>
        rw [oPut_ss, fu_at, fu_at]
        by_cases w : r = s
        · rw [if_pos w, if_pos (by rw [w])]
        · rw [if_neg w, if_neg (fun z => w (by cases z; rfl))]
          by_cases w2 : r = f
          · rw [if_pos w2, if_pos (by rw [w2])]
          · rw [if_neg w2, if_neg (fun z => w2 (by cases z; rfl))]
  refine ⟨hk, q2', c3, c4, ?_⟩
  intro m r x hr
  have ef : (hL (goS I g fr to H)).foldl (occF r m) none = occF r m ((hL H).foldl (occF r m) none) (g, fr, to, hC H, hC H + miD I g fr to) := by
    rw [hL_go, List.foldl_append]
    rfl
  have ep : plS (hL (goS I g fr to H)) x m = plF x m (plS (hL H) x m) (g, fr, to, hC H, hC H + miD I g fr to) := by
    unfold plS
    rw [hL_go, List.foldl_append]
    rfl
  rcases Nat.lt_or_ge m (hC H) with w | w
  · -- it has not begun
    rw [ef, ep]
    have e1 : occF r m ((hL H).foldl (occF r m) none) (g, fr, to, hC H, hC H + miD I g fr to) = (hL H).foldl (occF r m) none := by
      show (if to = some r ∧ hC H + miD I g fr to ≤ m then _ else if fr = some r ∧ hC H ≤ m then _ else _) = _
      rw [if_neg (fun z => by omega), if_neg (fun z => by omega)]
    have e2 : plF x m (plS (hL H) x m) (g, fr, to, hC H, hC H + miD I g fr to) = plS (hL H) x m := by
      show (if g = x ∧ hC H ≤ m then _ else _) = _
      rw [if_neg (fun z => by omega)]
    rw [e1, e2]
    exact q5 m r x hr
  · have dn := q2.mem w
    have rl : ∀ s, roomS I H x = some s → s < 1000 := fun s hs => by have := (room_s hs).1; omega
    rcases Nat.lt_or_ge m (hC H + miD I g fr to) with y | y
    · -- it is under way
      rw [ef, ep]
      have o1 : (hL H).foldl (occF r m) none = hO H r := by rw [oc_done _ _ dn, ← q4 r]; rfl
      have p1 : plS (hL H) x m = eO (roomS I H x) := by
        unfold plS
        rw [pl_done _ (-1) none dn rfl, ← q3 x]
        rfl
      rw [o1, p1]
      have e1 : occF r m (hO H r) (g, fr, to, hC H, hC H + miD I g fr to) = if fr = some r then none else hO H r := by
        show (if to = some r ∧ hC H + miD I g fr to ≤ m then _ else if fr = some r ∧ hC H ≤ m then _ else _) = _
        rw [if_neg (fun z => by omega)]
        by_cases u : fr = some r
        · rw [if_pos ⟨u, w⟩, if_pos u]
        · rw [if_neg (fun z => u z.1), if_neg u]
      have e2 : plF x m (eO (roomS I H x)) (g, fr, to, hC H, hC H + miD I g fr to) = if g = x then -2 else eO (roomS I H x) := by
        show (if g = x ∧ hC H ≤ m then (if m < hC H + miD I g fr to then (-2 : Int32) else _) else _) = _
        by_cases u : g = x
        · rw [if_pos ⟨u, w⟩, if_pos y, if_pos u]
        · rw [if_neg (fun z => u z.1), if_neg u]
      rw [e1, e2]
      by_cases u : g = x
      · subst u
        rw [if_pos rfl]
        have nt : ¬ (-2 : Int32) = Int32.ofNat r := by
          intro z
          have := i_eq.mp z
          rw [i_ok (by omega)] at this
          have e : (-2 : Int32).toInt = -2 := by decide
          omega
        refine ⟨fun z => ?_, fun z => absurd z nt⟩
        exfalso
        by_cases v : fr = some r
        · rw [if_pos v] at z; cases z
        · rw [if_neg v] at z
          have := (room_iff q1).mpr z
          rw [gr] at this
          exact v this
      · rw [if_neg u, eO_eq rl (by omega), room_iff q1]
        by_cases v : fr = some r
        · rw [if_pos v]
          refine ⟨fun z => (by cases z), fun z => ?_⟩
          have := (g3 r v).2
          rw [z] at this
          cases this
          exact absurd rfl u
        · rw [if_neg v]
    · -- it is over
      have dn' := q2'.mem (m := m) y
      have rl' : ∀ s, roomS I (goS I g fr to H) x = some s → s < 1000 := fun s hs => by have := (room_s hs).1; omega
      have o1 : (hL (goS I g fr to H)).foldl (occF r m) none = hO (goS I g fr to H) r := by rw [oc_done _ _ dn', ← c4 r]; rfl
      have p1 : plS (hL (goS I g fr to H)) x m = eO (roomS I (goS I g fr to H) x) := by
        unfold plS
        rw [pl_done _ (-1) none dn' rfl, ← c3 x]
        rfl
      rw [o1, p1, eO_eq rl' (by omega), room_iff hk]
theorem QL_cl {I : IA} {H : HA} (m : Nat) (h : QL I H) : QL I (hCl m H) := by
  obtain ⟨q1, q2, q3, q4, q5⟩ := h
  refine ⟨q1, ⟨fun k x hx => ?_, q2.2⟩, q3, q4, q5⟩
  obtain ⟨a, b, c, d, e, f⟩ := q2.1 k x hx
  refine ⟨a, b, c, d, ?_, f⟩
  show x.2.2.2.2 ≤ if hC H < m then m else hC H
  split <;> omega
theorem QL_run {I : IA} (hI : IOk I) (rl : Ev → Option Nat) {es : List Ev} (hG : evG I (fun _ => false) 0 es) : QL I (replay I rl es) := by
  refine run_ind hI (P := QL I) (fun H g fr to => QL_go hI) (fun H g h => h) (fun H m _ h => QL_cl m h) rl es _ _ _ Fit.z hG ?_
  refine ⟨fun r g h => (by cases h), ⟨fun k x hx => (by cases hx), fun i j x y _ hx => (by cases hx)⟩, ?_, fun r => rfl, ?_⟩
  · intro g
    have : ∀ n r, roS (hO h0S) g n r = none := by
      intro n
      induction n with
      | zero => intro r; rfl
      | succ n ih =>
        intro r
        unfold roS
        rw [if_neg (fun z => by cases z)]
        exact ih (r + 1)
    exact (this _ _).symm
  · intro m r g hr
    have i1 := hI.1
    refine ⟨fun z => (by cases z), fun z => ?_⟩
    have z : (-1 : Int32) = Int32.ofNat r := z
    rw [n_m1l (by omega)] at z
    exact z.elim
/-- the room's view and the guests' view -/
theorem who_eq {I : IA} {H : HA} (h : QL I H) {r m : Nat} (hr : r < iR I) : whoR (hL H) r m (iG I) 0 = (hL H).foldl (occF r m) none := by
  have h5 := fun g => h.2.2.2.2 m r g hr
  have key : ∀ n k, k + n = iG I → (∀ g, g < k → plS (hL H) g m ≠ Int32.ofNat r) → whoR (hL H) r m n k = (hL H).foldl (occF r m) none := by
    intro n
    induction n with
    | zero =>
      intro k hk hb
      unfold whoR
      cases z : (hL H).foldl (occF r m) none with
      | none => rfl
      | some g =>
        exfalso
        have p := (h5 g).mp z
        -- the guest is one of the inn
        have : g < iG I := by
          have mem : ∀ (L : List Go) (o : Option Nat), (∀ x, x ∈ L → x.1 < iG I) → (∀ g, o = some g → g < iG I) → ∀ g, L.foldl (occF r m) o = some g → g < iG I := by
            intro L
            induction L with
            | nil => intro o _ ho g hg; exact ho g hg
            | cons x L ih =>
              intro o hx ho g hg
              rw [List.foldl_cons] at hg
              refine ih _ (fun y hy => hx y (List.mem_cons_of_mem _ hy)) ?_ g hg
              intro g' hg'
              unfold occF at hg'
              split at hg'
              · cases hg'; exact hx x (List.mem_cons_self ..)
              · split at hg'
                · cases hg'
                · exact ho g' hg'
          refine mem (hL H) none ?_ (fun g hg => by cases hg) g z
          intro x hx
          obtain ⟨k, hk⟩ := List.getElem?_of_mem hx
          exact (h.2.1.1 k x hk).1
        exact hb g (by omega) p
    | succ n ih =>
      intro k hk hb
      unfold whoR
      by_cases w : plS (hL H) k m = Int32.ofNat r
      · rw [if_pos w]
        exact ((h5 k).mpr w).symm
      · rw [if_neg w]
        refine ih (k + 1) (by omega) (fun g hg => ?_)
        by_cases u : g = k
        · rw [u]; exact w
        · exact hb g (by omega)
  exact key _ 0 (by omega) (fun g hg => by omega)
section CWhere
variable {N : Nat} {A : AA}
theorem GoN_of {I : IA} (hI : IOk I) {H : HA} (h : LG I H) (hb : hcB H) (hl : (hL H).length ≤ 1000) : ∀ (k : Nat) (x : Go), (hL H)[k]? = some x → GoN x := by
  intro k x hx
  have i1 := hI.1
  have i2 := hI.2.1
  obtain ⟨a, b, c, d, e, f⟩ := h.1 k x hx
  unfold hcB at hb
  exact ⟨by omega, Nat.le_trans (pI_le b) i1, Nat.le_trans (pI_le c) i1, d, f, by omega⟩
theorem hA_all (hA' : AOk A) : QL (aI A) (hA A) ∧ (hL (hA A)).length ≤ 1000 ∧ ∀ (k : Nat) (x : Go), (hL (hA A))[k]? = some x → GoN x := by
  have h1 := QL_run hA'.1 (fun e => e.2.2.2) hA'.2.1.2.2.1
  have h2 := (replay_fit hA'.1 (fun e => e.2.2.2) hA'.2.1.2.2.1).2
  have h3 := hA'.2.1.2.1
  have h4 : (hL (hA A)).length ≤ 1000 := by unfold hA; omega
  exact ⟨h1, h4, GoN_of hA'.1 h1.2.1 (hcB_run hA'.1 _ hA'.2.1.2.2.1) h4⟩
theorem RC.diar {b : Bool} {mk : Nat → Option Nat} {h : PH} (r : RC A b mk h) : ∃ G, At sX0 14 G h ∧ RepD (hA A) G := r.2.2.2.2.2.2.1.2.2.2.1
theorem c_where (hN : 2000 ≤ N) (hA' : AOk A) (g m : Int32) : CAns A A (f_X11_where N 0 g m) (ansWhere A g m) := by
  refine CAns.ro (fun h q => ?_)
  obtain ⟨b, mk, q⟩ := q
  obtain ⟨G, g1, g2⟩ := q.diar
  obtain ⟨a1, a2, a3⟩ := hA_all hA'
  have b2 := hA'.1.2.1
  unfold f_X11_where f_X11_where_15 ansWhere
  rw [q.is11, gg_t, c_isGuest hA' q, gc_s]
  cases z1 : isN g (iG (aI A)) with
  | false => rw [if_pos (eBf _ rfl)]; rfl
  | true =>
    obtain ⟨x, hx, rfl⟩ := isN_t (by omega) z1
    rw [if_neg (eBt _ rfl), c_isAsked, gc_s]
    cases z2 : isN m 1000000 with
    | false => rw [if_pos (eBf _ rfl)]; rfl
    | true =>
      obtain ⟨y, hy, rfl⟩ := isN_t (by omega) z2
      rw [if_neg (eBt _ rfl), q.stt, gb_s, q.e9.2.2.2.2.1, gb_s, g1.is rfl, gg_t, c_placeOf hN g1 g2 a2 a3 (by omega) (by omega), gc_s, i_okc (by omega), i_okc (by omega)]
      rfl
theorem c_who (hN : 2000 ≤ N) (hA' : AOk A) (r m : Int32) : CAns A A (f_X11_who N 0 r m) (ansWho A r m) := by
  refine CAns.ro (fun h q => ?_)
  obtain ⟨b, mk, q⟩ := q
  obtain ⟨G, g1, g2⟩ := q.diar
  obtain ⟨a1, a2, a3⟩ := hA_all hA'
  have b1 := hA'.1.1
  unfold f_X11_who f_X11_who_15 ansWho
  rw [q.is11, gg_t, c_isRoom hA' q, gc_s]
  cases z1 : isN r (iR (aI A)) with
  | false => rw [if_pos (eBf _ rfl)]; rfl
  | true =>
    obtain ⟨x, hx, rfl⟩ := isN_t (by omega) z1
    rw [if_neg (eBt _ rfl), c_isAsked, gc_s]
    cases z2 : isN m 1000000 with
    | false => rw [if_pos (eBf _ rfl)]; rfl
    | true =>
      obtain ⟨y, hy, rfl⟩ := isN_t (by omega) z2
      rw [if_neg (eBt _ rfl), q.stt, gb_s, q.e9.2.2.2.2.1, gb_s, g1.is rfl, gg_t, c_occupantOf hN g1 g2 a2 a3 (by omega) (by omega), gc_s, i_okc (by omega), i_okc (by omega), who_eq a1 hx]
      rfl
end CWhere

