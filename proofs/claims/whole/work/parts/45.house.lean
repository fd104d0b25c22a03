/-! What comes and leaves do, without any machine -/
section House
variable {I : IA} {H : HA}
def inH (H : HA) (x : Nat) : Prop := ∃ r, hO H r = some x
theorem HOk.lt (hH : HOk I H) {r g : Nat} (h : hO H r = some g) : r < iR I ∧ g < iG I := ⟨(hH r g h).1, (hH r g h).2.1⟩
theorem HOk.inj (hH : HOk I H) {r r' g : Nat} (h : hO H r = some g) (h' : hO H r' = some g) : r = r' := ((hH r g h).2.2 r' h').symm
theorem go_in (hH : HOk I H) {g s : Nat} {fr : Option Nat} (hfr : ∀ r, fr = some r → hO H r = some g) (hn : fr = none → ¬ inH H g) (hs : s < iR I) (h0 : hO H s = none) (hg : g < iG I) :
    HOk I (goS I g fr (some s) H) ∧ ∀ x, inH (goS I g fr (some s) H) x ↔ (x = g ∨ inH H x) := by
  cases fr with
  | none =>
    have hn := hn rfl
    unfold HOk inH
    simp only [hO_go, oPut_ns, fu_at]
    constructor
    · intro r x hx
      by_cases h1 : r = s
      · rw [if_pos h1] at hx
        cases hx
        refine ⟨by omega, hg, fun r' hr' => ?_⟩
        by_cases h2 : r' = s
        · omega
        · rw [if_neg h2] at hr'
          exact absurd ⟨r', hr'⟩ hn
      · rw [if_neg h1] at hx
        obtain ⟨a1, a2, a3⟩ := hH r x hx
        refine ⟨a1, a2, fun r' hr' => ?_⟩
        by_cases h2 : r' = s
        · rw [if_pos h2] at hr'
          cases hr'
          exact absurd ⟨r, hx⟩ hn
        · rw [if_neg h2] at hr'
          exact a3 r' hr'
    · intro x
      constructor
      · rintro ⟨r, hr⟩
        by_cases h2 : r = s
        · rw [if_pos h2] at hr
          cases hr
          exact Or.inl rfl
        · rw [if_neg h2] at hr
          exact Or.inr ⟨r, hr⟩
      · rintro (h1 | ⟨r, hr⟩)
        · exact ⟨s, by rw [if_pos rfl, h1]⟩
        · refine ⟨r, ?_⟩
          rw [if_neg (by intro z; subst z; rw [h0] at hr; cases hr)]
          exact hr
  | some a =>
    have ha := hfr a rfl
    unfold HOk inH
    simp only [hO_go, oPut_ss, fu_at]
    constructor
    · intro r x hx
      by_cases h1 : r = s
      · rw [if_pos h1] at hx
        cases hx
        refine ⟨by omega, hg, fun r' hr' => ?_⟩
        by_cases h2 : r' = s
        · omega
        · rw [if_neg h2] at hr'
          by_cases h3 : r' = a
          · rw [if_pos h3] at hr'; cases hr'
          · rw [if_neg h3] at hr'
            exact absurd (hH.inj ha hr').symm h3
      · rw [if_neg h1] at hx
        by_cases h3 : r = a
        · rw [if_pos h3] at hx; cases hx
        · rw [if_neg h3] at hx
          obtain ⟨a1, a2, a3⟩ := hH r x hx
          refine ⟨a1, a2, fun r' hr' => ?_⟩
          by_cases h2 : r' = s
          · rw [if_pos h2] at hr'
            cases hr'
            exact absurd (hH.inj ha hx).symm h3
          · rw [if_neg h2] at hr'
            by_cases h4 : r' = a
            · rw [if_pos h4] at hr'; cases hr'
            · rw [if_neg h4] at hr'
              exact a3 r' hr'
    · intro x
      constructor
      · rintro ⟨r, hr⟩
        by_cases h2 : r = s
        · rw [if_pos h2] at hr
          cases hr
          exact Or.inl rfl
        · rw [if_neg h2] at hr
          by_cases h4 : r = a
          · rw [if_pos h4] at hr; cases hr
          · rw [if_neg h4] at hr
            exact Or.inr ⟨r, hr⟩
      · rintro (h1 | ⟨r, hr⟩)
        · exact ⟨s, by rw [if_pos rfl, h1]⟩
        · by_cases h5 : x = g
          · exact ⟨s, by rw [if_pos rfl, h5]⟩
          · refine ⟨r, ?_⟩
            rw [if_neg (by intro z; subst z; rw [h0] at hr; cases hr), if_neg (by intro z; subst z; rw [ha] at hr; cases hr; exact h5 rfl)]
            exact hr
theorem go_out (hH : HOk I H) {g a : Nat} (ha : hO H a = some g) :
    HOk I (goS I g (some a) none H) ∧ ∀ x, inH (goS I g (some a) none H) x ↔ (x ≠ g ∧ inH H x) := by
  unfold HOk inH
  simp only [hO_go, oPut_sn, fu_at]
  constructor
  · intro r x hx
    by_cases h1 : r = a
    · rw [if_pos h1] at hx; cases hx
    · rw [if_neg h1] at hx
      obtain ⟨a1, a2, a3⟩ := hH r x hx
      refine ⟨a1, a2, fun r' hr' => ?_⟩
      by_cases h2 : r' = a
      · rw [if_pos h2] at hr'; cases hr'
      · rw [if_neg h2] at hr'
        exact a3 r' hr'
  · intro x
    constructor
    · rintro ⟨r, hr⟩
      by_cases h2 : r = a
      · rw [if_pos h2] at hr; cases hr
      · rw [if_neg h2] at hr
        refine ⟨?_, r, hr⟩
        intro z
        subst z
        exact h2 (hH.inj hr ha)
    · rintro ⟨h1, r, hr⟩
      refine ⟨r, ?_⟩
      rw [if_neg (by intro z; subst z; rw [ha] at hr; cases hr; exact h1 rfl)]
      exact hr
theorem hL_len {g : Nat} {fr to : Option Nat} : (hL (goS I g fr to H)).length = (hL H).length + 1 := by rw [hL_go, List.length_append]; rfl
theorem fgS_spec (o : Nat → Option Nat) : ∀ n r, r ≤ fgS o n r ∧ fgS o n r ≤ r + n ∧ (∀ k, r ≤ k → k < fgS o n r → o k ≠ none) ∧ (fgS o n r < r + n → o (fgS o n r) = none) := by
  intro n
  induction n with
  | zero => intro r; exact ⟨Nat.le_refl _, Nat.le_refl _, fun k h1 h2 => absurd h2 (by unfold fgS; omega), fun h => absurd h (by unfold fgS; omega)⟩
  | succ n ih =>
    intro r
    unfold fgS
    by_cases h : o r = none
    · rw [if_pos h]
      exact ⟨Nat.le_refl _, by omega, fun k h1 h2 => absurd h2 (by omega), fun _ => h⟩
    · rw [if_neg h]
      obtain ⟨a, b, c, d⟩ := ih (r + 1)
      refine ⟨by omega, by omega, fun k h1 h2 => ?_, fun h1 => d (by omega)⟩
      by_cases h3 : k = r
      · rw [h3]; exact h
      · exact c k (by omega) h2
theorem gap_spec : gapS I H ≤ iR I ∧ (∀ k, k < gapS I H → hO H k ≠ none) ∧ (gapS I H < iR I → hO H (gapS I H) = none) := by
  obtain ⟨a, b, c, d⟩ := fgS_spec (hO H) (iR I) 0
  exact ⟨by unfold gapS; omega, fun k h => c k (by omega) h, fun h => d (by unfold gapS at h; omega)⟩
theorem sh_spec : ∀ (r : Nat) (H : HA), HOk I H → r < iR I → hO H r = none → (∀ k, k < r → hO H k ≠ none) →
    HOk I (shS I r H) ∧ hO (shS I r H) 0 = none ∧ (∀ x, inH (shS I r H) x ↔ inH H x) ∧ (hL (shS I r H)).length = (hL H).length + r ∧ (∀ k, k < r → hO (shS I r H) (k + 1) = hO H k) ∧ (∀ k, r < k → hO (shS I r H) k = hO H k) := by
  intro r
  induction r with
  | zero => intro H hH _ h0 _; exact ⟨hH, h0, fun _ => Iff.rfl, rfl, fun k hk => absurd hk (by omega), fun _ _ => rfl⟩
  | succ r ih =>
    intro H hH hr h0 hb
    unfold shS
    obtain ⟨g, hg⟩ : ∃ g, hO H r = some g := Option.ne_none_iff_exists'.mp (hb r (by omega))
    rw [hg]
    show _ ∧ _
    have h1 := go_in hH (g := g) (fr := some r) (s := r + 1) (fun a ha => by cases ha; exact hg) (fun h => by cases h) hr h0 (hH.lt hg).2
    have h2 : ∀ k, hO (goS I g (some r) (some (r + 1)) H) k = if k = r + 1 then some g else if k = r then none else hO H k := by
      intro k
      rw [hO_go, oPut_ss, fu_at, fu_at]
    obtain ⟨a1, a2, a3, a4, a5, a6⟩ := ih (goS I g (some r) (some (r + 1)) H) h1.1 (by omega) (by rw [h2, if_neg (by omega), if_pos rfl]) (fun k hk => by rw [h2, if_neg (by omega), if_neg (by omega)]; exact hb k (by omega))
    refine ⟨a1, a2, fun x => ?_, ?_, fun k hk => ?_, fun k hk => ?_⟩
    · rw [Option.getD_some, a3, h1.2]
      constructor
      · rintro (h | h)
        · exact ⟨r, by rw [hg, h]⟩
        · exact h
      · exact Or.inr
    · rw [Option.getD_some, a4, hL_len]
      omega
    · rw [Option.getD_some]
      by_cases h3 : k = r
      · subst h3
        rw [a6 (k + 1) (by omega), h2, if_pos rfl, hg]
      · rw [a5 k (by omega), h2, if_neg (by omega), if_neg (by omega)]
    · rw [Option.getD_some, a6 k (by omega), h2, if_neg (by omega), if_neg (by omega)]
theorem come_spec (hH : HOk I H) {g : Nat} (hg : g < iG I) (hn : ¬ inH H g) (hf : gapS I H < iR I) :
    HOk I (comeS I g H) ∧ (∀ x, inH (comeS I g H) x ↔ (x = g ∨ inH H x)) ∧ (hL (comeS I g H)).length = (hL H).length + gapS I H + 1 := by
  obtain ⟨b1, b2, b3⟩ := gap_spec (I := I) (H := H)
  have e : ∀ r, hO (hEv g H) r = hO H r := fun _ => rfl
  obtain ⟨a1, a2, a3, a4, a5, a6⟩ := sh_spec (I := I) (gapS I H) (hEv g H) hH hf (b3 hf) b2
  have a3 : ∀ x, inH (shS I (gapS I H) (hEv g H)) x ↔ inH H x := a3
  have h1 := go_in a1 (g := g) (fr := none) (s := 0) (fun r h => by cases h) (fun _ h => hn ((a3 g).mp h)) (by omega) a2 hg
  refine ⟨h1.1, fun x => ?_, ?_⟩
  · unfold comeS
    rw [h1.2, a3]
  · unfold comeS
    rw [hL_len, a4]
    rfl
theorem ro_spec (o : Nat → Option Nat) (g : Nat) : ∀ n r, (∀ a, roS o g n r = some a → r ≤ a ∧ a < r + n ∧ o a = some g) ∧ (roS o g n r = none → ∀ k, r ≤ k → k < r + n → o k ≠ some g) := by
  intro n
  induction n with
  | zero => intro r; exact ⟨fun a h => (by cases h), fun _ k h1 h2 => absurd h2 (by omega)⟩
  | succ n ih =>
    intro r
    unfold roS
    by_cases h : o r = some g
    · rw [if_pos h]
      exact ⟨fun a h1 => by cases h1; exact ⟨Nat.le_refl _, by omega, h⟩, fun h1 => by cases h1⟩
    · rw [if_neg h]
      obtain ⟨a, b⟩ := ih (r + 1)
      refine ⟨fun x hx => ?_, fun hx k h1 h2 => ?_⟩
      · obtain ⟨c1, c2, c3⟩ := a x hx
        exact ⟨by omega, by omega, c3⟩
      · by_cases h3 : k = r
        · rw [h3]; exact h
        · exact b hx k (by omega) (by omega)
theorem room_s {g a : Nat} (h : roomS I H g = some a) : a < iR I ∧ hO H a = some g := by
  obtain ⟨c1, c2, c3⟩ := (ro_spec (hO H) g (iR I) 0).1 a h
  exact ⟨by omega, c3⟩
theorem room_n (hH : HOk I H) {g : Nat} (h : roomS I H g = none) : ¬ inH H g := by
  rintro ⟨r, hr⟩
  exact (ro_spec (hO H) g (iR I) 0).2 h r (by omega) (by have := (hH.lt hr).1; omega) hr
theorem room_iff (hH : HOk I H) {g a : Nat} : roomS I H g = some a ↔ hO H a = some g := by
  constructor
  · exact fun h => (room_s h).2
  · intro h
    cases h1 : roomS I H g with
    | none => exact absurd ⟨a, h⟩ (room_n hH h1)
    | some b => rw [hH.inj (room_s h1).2 h]
theorem best_spec {rule gap : Nat} : ∀ n r, (bestS I H rule gap n).1 = some r → gap < r ∧ r ≤ gap + n ∧ hO H r ≠ none := by
  intro n
  induction n with
  | zero => intro r h; cases h
  | succ n ih =>
    intro r h
    unfold bestS at h
    cases h1 : hO H (gap + 1 + n) with
    | none =>
      simp only [h1] at h
      obtain ⟨a, b, c⟩ := ih r h
      exact ⟨a, by omega, c⟩
    | some g =>
      simp only [h1] at h
      split at h
      · cases h
        refine ⟨by omega, by omega, ?_⟩
        rw [h1]
        simp
      · obtain ⟨a, b, c⟩ := ih r h
        exact ⟨a, by omega, c⟩
theorem fill_spec {rule : Nat} : ∀ (f gap : Nat) (H : HA), HOk I H → gap < iR I → hO H gap = none →
    HOk I (fillS I rule f gap H) ∧ (∀ x, inH (fillS I rule f gap H) x ↔ inH H x) ∧ (hL (fillS I rule f gap H)).length + gap + 1 ≤ (hL H).length + iR I := by
  intro f
  induction f with
  | zero => intro gap H hH hg _; exact ⟨hH, fun _ => Iff.rfl, by unfold fillS; omega⟩
  | succ f ih =>
    intro gap H hH hg h0
    unfold fillS
    cases h1 : (bestS I H rule gap (iR I - (gap + 1))).1 with
    | none => exact ⟨hH, fun _ => Iff.rfl, by show (hL H).length + gap + 1 ≤ _; omega⟩
    | some r =>
      obtain ⟨c1, c2, c3⟩ := best_spec _ r h1
      obtain ⟨g, hr⟩ := Option.ne_none_iff_exists'.mp c3
      simp only [hr, Option.getD_some]
      have h3 := go_in hH (g := g) (fr := some r) (s := gap) (fun a ha => by cases ha; exact hr) (fun h => by cases h) hg h0 (hH.lt hr).2
      obtain ⟨a1, a2, a3⟩ := ih r (goS I g (some r) (some gap) H) h3.1 (hH.lt hr).1 (by rw [hO_go, oPut_ss, fu_at, if_neg (by omega), fu_at, if_pos rfl])
      refine ⟨a1, fun x => ?_, ?_⟩
      · rw [a2, h3.2]
        constructor
        · rintro (h | h)
          · exact ⟨r, by rw [hr, h]⟩
          · exact h
        · exact Or.inr
      · rw [hL_len] at a3
        omega
/-- fuel enough is enough -/
theorem fill_fuel {rule : Nat} : ∀ (f f' gap : Nat) (H : HA), iR I ≤ gap + f → iR I ≤ gap + f' → fillS I rule f gap H = fillS I rule f' gap H := by
  intro f
  induction f with
  | zero =>
    intro f' gap H h1 h2
    cases f' with
    | zero => rfl
    | succ f' =>
      have e : iR I - (gap + 1) = 0 := by omega
      simp only [fillS, e, bestS]
  | succ f ih =>
    intro f' gap H h1 h2
    cases f' with
    | zero =>
      have e : iR I - (gap + 1) = 0 := by omega
      simp only [fillS, e, bestS]
    | succ f' =>
      unfold fillS
      cases h3 : (bestS I H rule gap (iR I - (gap + 1))).1 with
      | none => rfl
      | some r =>
        obtain ⟨c1, c2, c3⟩ := best_spec _ r h3
        exact ih f' r _ (by omega) (by omega)
theorem leave_spec (hH : HOk I H) {g a : Nat} (ha : hO H a = some g) (rule : Option Nat) :
    HOk I (leaveS I g rule H) ∧ (∀ x, inH (leaveS I g rule H) x ↔ (x ≠ g ∧ inH H x)) ∧ (hL (leaveS I g rule H)).length ≤ (hL H).length + iR I := by
  have e : roomS I H g = some a := (room_iff hH).mpr ha
  have h1 := go_out hH ha
  have h2 := hH.lt ha
  unfold leaveS
  rw [e]
  cases rule with
  | none =>
    refine ⟨h1.1, h1.2, ?_⟩
    show (hL (goS I g (some a) none H)).length ≤ _
    rw [hL_len]
    omega
  | some k =>
    obtain ⟨a1, a2, a3⟩ := fill_spec (rule := k) (iR I) a (goS I g (some a) none H) h1.1 h2.1 (by rw [hO_go, oPut_sn, fu_at, if_pos rfl])
    refine ⟨a1, fun x => ?_, ?_⟩
    · show inH (fillS I k (iR I) a (goS I g (some a) none H)) x ↔ _
      rw [a2, h1.2]
    · show (hL (fillS I k (iR I) a (goS I g (some a) none H))).length ≤ _
      rw [hL_len] at a3
      omega
/-- a going that can be -/
def GoOk (I : IA) (H : HA) (g : Nat) (fr to : Option Nat) : Prop := HOk I H ∧ g < iG I ∧ (∀ r, fr = some r → r < iR I ∧ hO H r = some g) ∧ (fr = none → ¬ inH H g) ∧ (∀ r, to = some r → r < iR I ∧ hO H r = none)
theorem GoOk.fr {g : Nat} {fr to : Option Nat} (h : GoOk I H g fr to) : ∀ r, fr = some r → r < iR I := fun r hr => (h.2.2.1 r hr).1
theorem GoOk.to {g : Nat} {fr to : Option Nat} (h : GoOk I H g fr to) : ∀ r, to = some r → r < iR I := fun r hr => (h.2.2.2.2 r hr).1
theorem sh_ind {P : HA → Prop} (hgo : ∀ H g fr to, GoOk I H g fr to → P H → P (goS I g fr to H)) : ∀ (r : Nat) (H : HA), HOk I H → r < iR I → hO H r = none → (∀ k, k < r → hO H k ≠ none) → P H → P (shS I r H) := by
  intro r
  induction r with
  | zero => intro H _ _ _ _ hP; exact hP
  | succ r ih =>
    intro H hH hr h0 hb hP
    unfold shS
    obtain ⟨g, hg⟩ : ∃ g, hO H r = some g := Option.ne_none_iff_exists'.mp (hb r (by omega))
    have h1 := go_in hH (g := g) (fr := some r) (s := r + 1) (fun a ha => by cases ha; exact hg) (fun h => by cases h) hr h0 (hH.lt hg).2
    have h2 : ∀ k, hO (goS I g (some r) (some (r + 1)) H) k = if k = r + 1 then some g else if k = r then none else hO H k := by
      intro k
      rw [hO_go, oPut_ss, fu_at, fu_at]
    rw [hg, Option.getD_some]
    exact ih _ h1.1 (by omega) (by rw [h2, if_neg (by omega), if_pos rfl]) (fun k hk => by rw [h2, if_neg (by omega), if_neg (by omega)]; exact hb k (by omega)) (hgo H g _ _ ⟨hH, (hH.lt hg).2, fun a ha => (by cases ha; exact ⟨by omega, hg⟩), fun h => (by cases h), fun a ha => (by cases ha; exact ⟨hr, h0⟩)⟩ hP)
theorem fill_ind {P : HA → Prop} (hgo : ∀ H g fr to, GoOk I H g fr to → P H → P (goS I g fr to H)) {rule : Nat} : ∀ (f gap : Nat) (H : HA), HOk I H → gap < iR I → hO H gap = none → P H → P (fillS I rule f gap H) := by
  intro f
  induction f with
  | zero => intro gap H _ _ _ hP; exact hP
  | succ f ih =>
    intro gap H hH hg h0 hP
    unfold fillS
    cases h1 : (bestS I H rule gap (iR I - (gap + 1))).1 with
    | none => exact hP
    | some r =>
      obtain ⟨c1, c2, c3⟩ := best_spec _ r h1
      obtain ⟨g, hr⟩ := Option.ne_none_iff_exists'.mp c3
      have h3 := go_in hH (g := g) (fr := some r) (s := gap) (fun a ha => by cases ha; exact hr) (fun h => by cases h) hg h0 (hH.lt hr).2
      simp only [hr, Option.getD_some]
      exact ih r _ h3.1 (hH.lt hr).1 (by rw [hO_go, oPut_ss, fu_at, if_neg (by omega), fu_at, if_pos rfl]) (hgo H g _ _ ⟨hH, (hH.lt hr).2, fun a ha => (by cases ha; exact ⟨(hH.lt hr).1, hr⟩), fun h => (by cases h), fun a ha => (by cases ha; exact ⟨hg, h0⟩)⟩ hP)
theorem come_ind {P : HA → Prop} (hgo : ∀ H g fr to, GoOk I H g fr to → P H → P (goS I g fr to H)) (hH : HOk I H) {g : Nat} (hg : g < iG I) (hn : ¬ inH H g) (hf : gapS I H < iR I) (hP : P (hEv g H)) : P (comeS I g H) := by
  obtain ⟨b1, b2, b3⟩ := gap_spec (I := I) (H := H)
  have a := sh_spec (I := I) (gapS I H) (hEv g H) hH hf (b3 hf) b2
  unfold comeS
  refine hgo _ g _ _ ⟨a.1, hg, fun r h => (by cases h), fun _ z => hn ((a.2.2.1 g).mp z), fun r hr => by cases hr; exact ⟨by omega, a.2.1⟩⟩ ?_
  exact sh_ind hgo (gapS I H) (hEv g H) hH hf (b3 hf) b2 hP
theorem leave_ind {P : HA → Prop} (hgo : ∀ H g fr to, GoOk I H g fr to → P H → P (goS I g fr to H)) (hH : HOk I H) {g a : Nat} (ha : hO H a = some g) (rule : Option Nat) (hP : P H) : P (leaveS I g rule H) := by
  have e : roomS I H g = some a := (room_iff hH).mpr ha
  have h1 := go_out hH ha
  have h2 := hH.lt ha
  have h3 : P (goS I g (some a) none H) := hgo H g _ _ ⟨hH, h2.2, fun r hr => (by cases hr; exact ⟨h2.1, ha⟩), fun h => (by cases h), fun r hr => (by cases hr)⟩ hP
  unfold leaveS
  rw [e]
  cases rule with
  | none => exact h3
  | some k => exact fill_ind hgo _ _ _ h1.1 h2.1 (by rw [hO_go, oPut_sn, fu_at, if_pos rfl]) h3
end House

