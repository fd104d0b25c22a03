/-! Order: what those who come move -/
def cO (o : Nat → Option Nat) (x : Nat) : Nat → Nat
  | 0 => 0
  | n + 1 => cO o x n + if o n = some x then 1 else 0
def bO (I : IA) (o : Nat → Option Nat) : Nat → Nat
  | 0 => 0
  | n + 1 => bO I o n + iBa I ((o n).getD 0)
def mvR (q : Nat) : List Nat → Nat
  | [] => 0
  | g :: r => if g = q then r.length else mvR q r
def spR (I : IA) : List Nat → Nat
  | [] => 0
  | g :: r => iBa I g * r.length + spR I r
def bsR (I : IA) : List Nat → Nat
  | [] => 0
  | g :: r => iBa I g + bsR I r
section OMath
variable {I : IA}
theorem cO_ext {f g : Nat → Option Nat} {x : Nat} : ∀ n, (∀ k, k < n → f k = g k) → cO f x n = cO g x n := by
  intro n
  induction n with
  | zero => intro _; rfl
  | succ n ih =>
    intro h
    unfold cO
    rw [ih (fun k hk => h k (by omega)), h n (by omega)]
theorem bO_ext {f g : Nat → Option Nat} : ∀ n, (∀ k, k < n → f k = g k) → bO I f n = bO I g n := by
  intro n
  induction n with
  | zero => intro _; rfl
  | succ n ih =>
    intro h
    unfold bO
    rw [ih (fun k hk => h k (by omega)), h n (by omega)]
theorem cO_cut {f g : Nat → Option Nat} {x k : Nat} : ∀ n, k ≤ n → (∀ s, k ≤ s → s < n → f s = g s) → cO f x n + cO g x k = cO g x n + cO f x k := by
  intro n
  induction n with
  | zero => intro h _; have : k = 0 := by omega
            subst this; omega
  | succ n ih =>
    intro h hs
    by_cases z : k = n + 1
    · subst z; omega
    · have := ih (by omega) (fun s h1 h2 => hs s h1 (by omega))
      show cO f x n + (if f n = some x then 1 else 0) + cO g x k = cO g x n + (if g n = some x then 1 else 0) + cO f x k
      rw [hs n (by omega) (by omega)]
      omega
theorem bO_cut {f g : Nat → Option Nat} {k : Nat} : ∀ n, k ≤ n → (∀ s, k ≤ s → s < n → f s = g s) → bO I f n + bO I g k = bO I g n + bO I f k := by
  intro n
  induction n with
  | zero => intro h _; have : k = 0 := by omega
            subst this; omega
  | succ n ih =>
    intro h hs
    by_cases z : k = n + 1
    · subst z; omega
    · have := ih (by omega) (fun s h1 h2 => hs s h1 (by omega))
      show bO I f n + iBa I ((f n).getD 0) + bO I g k = bO I g n + iBa I ((g n).getD 0) + bO I f k
      rw [hs n (by omega) (by omega)]
      omega
theorem sh_mv {x : Nat} : ∀ (r : Nat) (H : HA), (∀ k, k < r → hO H k ≠ none) → hM (shS I r H) x = hM H x + cO (hO H) x r ∧ hsP (shS I r H) = hsP H + bO I (hO H) r := by
  intro r
  induction r with
  | zero => intro H _; exact ⟨rfl, rfl⟩
  | succ r ih =>
    intro H hb
    obtain ⟨g, hg⟩ : ∃ g, hO H r = some g := Option.ne_none_iff_exists'.mp (hb r (by omega))
    have h2 : ∀ k, hO (goS I g (some r) (some (r + 1)) H) k = if k = r + 1 then some g else if k = r then none else hO H k := by
      intro k
      rw [hO_go, oPut_ss, fu_at, fu_at]
    have h3 : ∀ k, k < r → hO (goS I g (some r) (some (r + 1)) H) k = hO H k := fun k hk => by rw [h2, if_neg (by omega), if_neg (by omega)]
    obtain ⟨a1, a2⟩ := ih (goS I g (some r) (some (r + 1)) H) (fun k hk => by rw [h3 k hk]; exact hb k (by omega))
    have e : shS I (r + 1) H = shS I r (goS I g (some r) (some (r + 1)) H) := by
      show shS I r (goS I ((hO H r).getD 0) (some r) (some (r + 1)) H) = _
      rw [hg]
      rfl
    rw [e, a1, a2, cO_ext r h3, bO_ext r h3, hM_go, hsP_go, bi_ss, if_pos rfl, if_pos rfl]
    show fu (hM H) g (hM H g + 1) x + cO (hO H) x r = hM H x + (cO (hO H) x r + if hO H r = some x then 1 else 0) ∧ hsP H + iBa I g + bO I (hO H) r = hsP H + (bO I (hO H) r + iBa I ((hO H r).getD 0))
    rw [hg, fu_at]
    refine ⟨?_, ?_⟩
    · by_cases z : x = g
      · rw [if_pos z, z, if_pos rfl]
        omega
      · rw [if_neg z, if_neg (fun w => z (Option.some.inj w).symm)]
        omega
    · show _ = hsP H + (bO I (hO H) r + iBa I g)
      omega
theorem come_o {H : HA} (hH : HOk I H) {g : Nat} (hf : gapS I H < iR I) : hO (comeS I g H) 0 = some g ∧ (∀ k, k < gapS I H → hO (comeS I g H) (k + 1) = hO H k) ∧ ∀ k, gapS I H < k → hO (comeS I g H) k = hO H k := by
  obtain ⟨b1, b2, b3⟩ := gap_spec (I := I) (H := H)
  obtain ⟨a1, a2, a3, a4, a5, a6⟩ := sh_spec (I := I) (gapS I H) (hEv g H) hH hf (b3 hf) b2
  have e : hO (comeS I g H) = fu (hO (shS I (gapS I H) (hEv g H))) 0 (some g) := by
    unfold comeS
    rw [hO_go, oPut_ns]
  rw [e]
  refine ⟨fu_eq rfl, fun k hk => ?_, fun k hk => ?_⟩
  · rw [fu_ne (by omega)]
    exact a5 k hk
  · rw [fu_ne (by omega)]
    exact a6 k hk
theorem come_m {H : HA} {g x : Nat} : hM (comeS I g H) x = hM H x + cO (hO H) x (gapS I H) ∧ hsP (comeS I g H) = hsP H + bO I (hO H) (gapS I H) := by
  obtain ⟨b1, b2, b3⟩ := gap_spec (I := I) (H := H)
  obtain ⟨a1, a2⟩ := sh_mv (I := I) (x := x) (gapS I H) (hEv g H) b2
  unfold comeS
  rw [hM_go, hsP_go, bi_ns]
  exact ⟨a1, a2⟩
theorem mvR_a (q g : Nat) : ∀ a, mvR q (a ++ [g]) = mvR q a + if q ∈ a then 1 else 0 := by
  intro a
  induction a with
  | nil =>
    show (if g = q then 0 else 0) = 0 + if q ∈ ([] : List Nat) then 1 else 0
    rw [if_neg (List.not_mem_nil)]
    split <;> rfl
  | cons y a ih =>
    show (if y = q then (a ++ [g]).length else mvR q (a ++ [g])) = (if y = q then a.length else mvR q a) + if q ∈ y :: a then 1 else 0
    by_cases z : y = q
    · rw [if_pos z, if_pos z, if_pos (by rw [z]; exact List.mem_cons_self ..), List.length_append]
      rfl
    · rw [if_neg z, if_neg z, ih]
      have : (q ∈ y :: a) ↔ q ∈ a := by
        rw [List.mem_cons]
        exact ⟨fun h => h.resolve_left (fun w => z w.symm), Or.inr⟩
      simp only [this]
theorem bsR_a (a b : List Nat) : bsR I (a ++ b) = bsR I a + bsR I b := by
  induction a with
  | nil => show bsR I b = 0 + _; omega
  | cons y a ih =>
    show iBa I y + bsR I (a ++ b) = iBa I y + bsR I a + bsR I b
    rw [ih]
    omega
theorem bsR_r (a : List Nat) : bsR I a.reverse = bsR I a := by
  induction a with
  | nil => rfl
  | cons y a ih =>
    rw [List.reverse_cons, bsR_a, ih]
    show bsR I a + (iBa I y + 0) = iBa I y + bsR I a
    omega
theorem spR_a (g : Nat) : ∀ a, spR I (a ++ [g]) = spR I a + bsR I a := by
  intro a
  induction a with
  | nil => show iBa I g * 0 + 0 = 0 + 0; omega
  | cons y a ih =>
    show iBa I y * (a ++ [g]).length + spR I (a ++ [g]) = iBa I y * a.length + spR I a + (iBa I y + bsR I a)
    rw [ih, List.length_append]
    show iBa I y * (a.length + 1) + _ = _
    rw [Nat.mul_add]
    omega
theorem nd_rev {a : List Nat} (h : a.Nodup) : a.reverse.Nodup := List.pairwise_reverse.mpr (List.Pairwise.imp (fun w => fun z => w z.symm) h)
theorem cO_l {x : Nat} {o : Nat → Option Nat} : ∀ R : List Nat, R.Nodup → (∀ s, s < R.length → o s = R[s]?) → cO o x R.length = if x ∈ R then 1 else 0 := by
  refine snoc_ind ?_ ?_
  · intro _ _
    rw [if_neg (List.not_mem_nil)]
    rfl
  · intro R y ih hn ho
    have hn' := List.nodup_append.mp hn
    have i1 := ih hn'.1 (fun s hs => by
      rw [ho s (by rw [List.length_append]; omega), List.getElem?_append_left hs])
    have e : (R ++ [y]).length = R.length + 1 := by rw [List.length_append]; rfl
    have oy := ho R.length (by omega)
    rw [List.getElem?_append_right (Nat.le_refl _), Nat.sub_self] at oy
    have oy : o R.length = some y := oy
    rw [e]
    show cO o x R.length + (if o R.length = some x then 1 else 0) = _
    rw [i1, oy]
    by_cases z : x = y
    · have z2' : x ∉ R := fun w => hn'.2.2 x w y (List.mem_singleton.mpr rfl) z
      rw [if_neg z2', if_pos (by rw [z]), if_pos (List.mem_append_right _ (List.mem_singleton.mpr z))]
    · have : (x ∈ R ++ [y]) ↔ x ∈ R := by
        rw [List.mem_append, List.mem_singleton]
        exact ⟨fun h => h.resolve_right z, Or.inl⟩
      rw [if_neg (fun w => z (Option.some.inj w).symm), Nat.add_zero]
      simp only [this]
theorem bO_l {o : Nat → Option Nat} : ∀ R : List Nat, (∀ s, s < R.length → o s = R[s]?) → bO I o R.length = bsR I R := by
  refine snoc_ind ?_ ?_
  · intro _
    rfl
  · intro R y ih ho
    have i1 := ih (fun s hs => by
      rw [ho s (by rw [List.length_append]; omega), List.getElem?_append_left hs])
    have e : (R ++ [y]).length = R.length + 1 := by rw [List.length_append]; rfl
    have oy := ho R.length (by omega)
    rw [List.getElem?_append_right (Nat.le_refl _), Nat.sub_self] at oy
    have oy : o R.length = some y := oy
    rw [e]
    show bO I o R.length + iBa I ((o R.length).getD 0) = _
    rw [i1, oy, bsR_a]
    rfl
theorem CanCome.sn {ins : Nat → Bool} {n g : Nat} {a : List Nat} (h : CanCome I ins n (a ++ [g])) : CanCome I ins n a ∧ g < iG I ∧ (a.contains g || ins g) = false ∧ n + a.length < iR I := by
  obtain ⟨c1, c2, c3⟩ := h
  rw [List.length_append] at c3
  have c3 : n + (a.length + 1) ≤ iR I := c3
  have nd := List.nodup_append.mp c2
  have cg := c1 g (List.mem_append_right _ (List.mem_singleton.mpr rfl))
  refine ⟨⟨fun x hx => c1 x (List.mem_append_left _ hx), nd.1, by omega⟩, cg.1, ?_, by omega⟩
  rw [cg.2, Bool.or_false, ← Bool.not_eq_true]
  intro z
  exact nd.2.2 g (List.contains_iff_mem.mp z) g (List.mem_singleton.mpr rfl) rfl
/-- who has come stands in front, the last first -/
theorem come_rm (hI : IOk I) {ins : Nat → Bool} {n : Nat} {H : HA} (hF : Fit I ins n H) : ∀ a : List Nat, CanCome I ins n a → ∀ s, s < a.length → hO (comeL I a H) s = a.reverse[s]? := by
  refine snoc_ind ?_ ?_
  · intro _ s hs
    exact absurd hs (Nat.not_lt_zero _)
  · intro a g ih hc s hs
    obtain ⟨c1, c2, c3, c4⟩ := hc.sn
    obtain ⟨f1, f2, f3⟩ := comeL_fit hI a ins n H hF c1
    have hr := ih c1
    have gp := come_gap f1 c4
    have gs := (gap_spec (I := I) (H := comeL I a H)).2.2 gp
    have gk : a.length ≤ gapS I (comeL I a H) := by
      rcases Nat.lt_or_ge (gapS I (comeL I a H)) a.length with z | z
      · rw [hr _ z, List.getElem?_eq_getElem (by rw [List.length_reverse]; exact z)] at gs
        cases gs
      · exact z
    obtain ⟨o1, o2, o3⟩ := come_o (g := g) f1.1 gp
    rw [comeL_a, List.reverse_append]
    show _ = (g :: a.reverse)[s]?
    rw [List.length_append] at hs
    have hs : s < a.length + 1 := hs
    cases s with
    | zero => rw [o1]; rfl
    | succ s =>
      rw [o2 s (by omega), hr s (by omega)]
      rfl
theorem come_two (hI : IOk I) {ins : Nat → Bool} {n : Nat} {H : HA} (hF : Fit I ins n H) : ∀ (a : List Nat) (b : List Nat), b.length = a.length → CanCome I ins n a → CanCome I ins n b → (∀ s, a.length ≤ s → hO (comeL I a H) s = hO (comeL I b H) s) ∧ (∀ x, hM (comeL I a H) x + mvR x b = hM (comeL I b H) x + mvR x a) ∧ hsP (comeL I a H) + spR I b = hsP (comeL I b H) + spR I a := by
  refine snoc_ind ?_ ?_
  · intro b hb _ _
    have : b = [] := List.eq_nil_of_length_eq_zero hb
    subst this
    exact ⟨fun s _ => rfl, fun x => rfl, rfl⟩
  · intro a g ih b hb ha hbc
    rw [List.length_append] at hb
    have hb : b.length = a.length + 1 := hb
    rcases List.eq_nil_or_concat b with z | ⟨b', g', z⟩
    · rw [z] at hb; cases hb
    · rw [List.concat_eq_append] at z
      subst z
      rw [List.length_append] at hb
      have hb : b'.length + 1 = a.length + 1 := hb
      obtain ⟨c1, c2, c3, c4⟩ := ha.sn
      obtain ⟨d1, d2, d3, d4⟩ := hbc.sn
      have f1 := (comeL_fit hI a ins n H hF c1).1
      have f2 := (comeL_fit hI b' ins n H hF d1).1
      obtain ⟨i1, i2, i3⟩ := ih b' (by omega) c1 d1
      have ra := come_rm hI hF a c1
      have rb := come_rm hI hF b' d1
      have ga := come_gap f1 c4
      have gb' := come_gap f2 d4
      obtain ⟨sa1, sa2, sa3⟩ := gap_spec (I := I) (H := comeL I a H)
      obtain ⟨sb1, sb2, sb3⟩ := gap_spec (I := I) (H := comeL I b' H)
      have ka : a.length ≤ gapS I (comeL I a H) := by
        rcases Nat.lt_or_ge (gapS I (comeL I a H)) a.length with z | z
        · have gs := sa3 ga
          rw [ra _ z, List.getElem?_eq_getElem (by rw [List.length_reverse]; exact z)] at gs
          cases gs
        · exact z
      have kb : b'.length ≤ gapS I (comeL I b' H) := by
        rcases Nat.lt_or_ge (gapS I (comeL I b' H)) b'.length with z | z
        · have gs := sb3 gb'
          rw [rb _ z, List.getElem?_eq_getElem (by rw [List.length_reverse]; exact z)] at gs
          cases gs
        · exact z
      have ge : gapS I (comeL I b' H) = gapS I (comeL I a H) := by
        rcases Nat.lt_trichotomy (gapS I (comeL I a H)) (gapS I (comeL I b' H)) with z | z | z
        · have := sb2 _ z
          rw [← i1 _ ka] at this
          exact absurd (sa3 ga) this
        · exact z.symm
        · have := sa2 _ z
          rw [i1 _ (by omega)] at this
          exact absurd (sb3 gb') this
      obtain ⟨oa1, oa2, oa3⟩ := come_o (g := g) f1.1 ga
      obtain ⟨ob1, ob2, ob3⟩ := come_o (g := g') f2.1 gb'
      rw [ge] at ob2 ob3
      rw [comeL_a, comeL_a]
      refine ⟨?_, ?_, ?_⟩
      · intro s hs
        rw [List.length_append] at hs
        have hs : a.length + 1 ≤ s := hs
        rcases Nat.lt_trichotomy s (gapS I (comeL I a H) + 1) with z | z | z
        · obtain ⟨t, rfl⟩ : ∃ t, s = t + 1 := ⟨s - 1, by omega⟩
          rw [oa2 t (by omega), ob2 t (by omega)]
          exact i1 t (by omega)
        · by_cases w : gapS I (comeL I a H) = 0
          · rw [oa3 s (by omega), ob3 s (by omega)]
            exact i1 s (by omega)
          · rw [oa3 s (by omega), ob3 s (by omega)]
            exact i1 s (by omega)
        · rw [oa3 s (by omega), ob3 s (by omega)]
          exact i1 s (by omega)
      · intro x
        rw [(come_m (I := I) (H := comeL I a H) (g := g) (x := x)).1, (come_m (I := I) (H := comeL I b' H) (g := g') (x := x)).1, mvR_a, mvR_a, ge]
        have ct := cO_cut (f := hO (comeL I a H)) (g := hO (comeL I b' H)) (x := x) (k := a.length) (gapS I (comeL I a H)) ka (fun s h1 _ => i1 s h1)
        have la := cO_l (x := x) (o := hO (comeL I a H)) a.reverse (nd_rev c1.2.1) (fun s hs => ra s (by rw [List.length_reverse] at hs; exact hs))
        have lb := cO_l (x := x) (o := hO (comeL I b' H)) b'.reverse (nd_rev d1.2.1) (fun s hs => rb s (by rw [List.length_reverse] at hs; exact hs))
        simp only [List.length_reverse, List.mem_reverse] at la lb
        rw [show b'.length = a.length by omega] at lb
        have := i2 x
        omega
      · rw [(come_m (I := I) (H := comeL I a H) (g := g) (x := 0)).2, (come_m (I := I) (H := comeL I b' H) (g := g') (x := 0)).2, spR_a, spR_a, ge]
        have ct := bO_cut (I := I) (f := hO (comeL I a H)) (g := hO (comeL I b' H)) (k := a.length) (gapS I (comeL I a H)) ka (fun s h1 _ => i1 s h1)
        have la := bO_l (I := I) (o := hO (comeL I a H)) a.reverse (fun s hs => ra s (by rw [List.length_reverse] at hs; exact hs))
        have lb := bO_l (I := I) (o := hO (comeL I b' H)) b'.reverse (fun s hs => rb s (by rw [List.length_reverse] at hs; exact hs))
        rw [List.length_reverse, bsR_r] at la lb
        rw [show b'.length = a.length by omega] at lb
        omega
end OMath

