/-! What a mark holds, and the house that follows from what came and left -/
abbrev Tri : Type := Nat × Nat × Nat
/-- rule in use, events, sightings, pages, jobs, booked -/
abbrev SA : Type := Option Nat × List Ev × List Tri × (Nat → Nat) × List Tri × List Nat
def sR (S : SA) : Option Nat := S.1
def sE (S : SA) : List Ev := S.2.1
def sS (S : SA) : List Tri := S.2.2.1
def sP (S : SA) : Nat → Nat := S.2.2.2.1
def sJ (S : SA) : List Tri := S.2.2.2.2.1
def sB (S : SA) : List Nat := S.2.2.2.2.2
def ev1 (I : IA) (ins : Nat → Bool) (n : Nat) (e : Ev) : Prop := e.1 < iG I ∧ e.2.2.1 ≤ 99999 ∧ (∀ k, e.2.2.2 = some k → k < iK I) ∧ (if e.2.1 then ins e.1 = true else ins e.1 = false ∧ n < iR I)
def nxI (ins : Nat → Bool) (e : Ev) : Nat → Bool := fu ins e.1 (!e.2.1)
def nxN (n : Nat) (e : Ev) : Nat := if e.2.1 then n - 1 else n + 1
def evG (I : IA) : (Nat → Bool) → Nat → List Ev → Prop
  | _, _, [] => True
  | ins, n, e :: es => ev1 I ins n e ∧ evG I (nxI ins e) (nxN n e) es
def insS (es : List Ev) : Nat → Bool := es.foldl nxI (fun _ => false)
def nInS (es : List Ev) : Nat := es.foldl nxN 0
theorem insS_a (es : List Ev) (e : Ev) : insS (es ++ [e]) = nxI (insS es) e := by unfold insS; rw [List.foldl_append]; rfl
theorem nInS_a (es : List Ev) (e : Ev) : nInS (es ++ [e]) = nxN (nInS es) e := by unfold nInS; rw [List.foldl_append]; rfl
theorem replay_a (I : IA) (rl : Ev → Option Nat) (es : List Ev) (e : Ev) : replay I rl (es ++ [e]) = evS I rl (replay I rl es) e := by unfold replay; rw [List.foldl_append]; rfl
theorem evG_a {I : IA} : ∀ (es : List Ev) (ins : Nat → Bool) (n : Nat) (e : Ev), evG I ins n (es ++ [e]) ↔ evG I ins n es ∧ ev1 I (es.foldl nxI ins) (es.foldl nxN n) e := by
  intro es
  induction es with
  | nil => intro ins n e; exact ⟨fun h => ⟨trivial, h.1⟩, fun h => ⟨h.2, trivial⟩⟩
  | cons x es ih =>
    intro ins n e
    show ev1 I ins n x ∧ evG I (nxI ins x) (nxN n x) (es ++ [e]) ↔ (ev1 I ins n x ∧ evG I (nxI ins x) (nxN n x) es) ∧ _
    rw [ih, and_assoc]
    rfl
def occN (o : Nat → Option Nat) : Nat → Nat
  | 0 => 0
  | n + 1 => occN o n + if o n = none then 0 else 1
theorem occN_le (o : Nat → Option Nat) : ∀ n, occN o n ≤ n := by
  intro n
  induction n with
  | zero => exact Nat.le_refl _
  | succ n ih =>
    unfold occN
    split <;> omega
theorem occN_fu {o : Nat → Option Nat} {r : Nat} {x : Option Nat} : ∀ n, occN (fu o r x) n + (if r < n ∧ o r ≠ none then 1 else 0) = occN o n + (if r < n ∧ x ≠ none then 1 else 0) := by
  intro n
  induction n with
  | zero => simp [occN]
  | succ n ih =>
    unfold occN
    rw [fu_at]
    by_cases h1 : n = r
    · subst h1
      rw [if_pos rfl]
      simp only [Nat.lt_irrefl, false_and, if_false, Nat.add_zero] at ih
      rw [ih]
      have : n < n + 1 := by omega
      simp only [this, true_and, ne_eq, ite_not]
      split <;> split <;> omega
    · rw [if_neg h1]
      have e : (r < n + 1) ↔ (r < n) := ⟨fun h => by omega, fun h => by omega⟩
      simp only [e]
      omega
theorem occN_full {o : Nat → Option Nat} : ∀ n, occN o n = n ↔ ∀ r, r < n → o r ≠ none := by
  intro n
  induction n with
  | zero => exact ⟨fun _ r h => by omega, fun _ => rfl⟩
  | succ n ih =>
    have h1 := occN_le o n
    unfold occN
    constructor
    · intro h r hr
      split at h
      · omega
      · rename_i h2
        by_cases h3 : r = n
        · rw [h3]; exact h2
        · exact ih.mp (by omega) r (by omega)
    · intro h
      rw [if_neg (h n (by omega)), ih.mpr (fun r hr => h r (by omega))]
theorem gap_full {I : IA} {H : HA} : gapS I H < iR I ↔ occN (hO H) (iR I) < iR I := by
  obtain ⟨a, b, c⟩ := gap_spec (I := I) (H := H)
  have h1 := occN_le (hO H) (iR I)
  have h2 := occN_full (o := hO H) (iR I)
  constructor
  · intro h
    rcases Nat.lt_or_ge (occN (hO H) (iR I)) (iR I) with h3 | h3
    · exact h3
    · exact absurd (c h) (h2.mp (by omega) _ h)
  · intro h
    rcases Nat.lt_or_ge (gapS I H) (iR I) with h3 | h3
    · exact h3
    · have := h2.mpr (fun r hr => b r (by omega))
      omega
section Occ
variable {I : IA} {H : HA}
theorem occ_ss {g r s : Nat} (hr : r < iR I) (hs : s < iR I) (h1 : hO H r = some g) (h0 : hO H s = none) : occN (hO (goS I g (some r) (some s) H)) (iR I) = occN (hO H) (iR I) := by
  rw [hO_go, oPut_ss]
  have a := occN_fu (o := hO H) (r := r) (x := none) (iR I)
  have b := occN_fu (o := fu (hO H) r none) (r := s) (x := some g) (iR I)
  have e : fu (hO H) r none s = none := by
    rw [fu_at]
    split
    · rfl
    · exact h0
  simp only [hr, h1, e, hs, true_and, ne_eq, not_true, not_false_eq_true, if_false, if_true, reduceCtorEq] at a b
  omega
theorem occ_ns {g s : Nat} (hs : s < iR I) (h0 : hO H s = none) : occN (hO (goS I g none (some s) H)) (iR I) = occN (hO H) (iR I) + 1 := by
  rw [hO_go, oPut_ns]
  have b := occN_fu (o := hO H) (r := s) (x := some g) (iR I)
  simp only [h0, hs, true_and, ne_eq, not_true, not_false_eq_true, if_false, if_true, reduceCtorEq] at b
  omega
theorem occ_sn {g r : Nat} (hr : r < iR I) (h1 : hO H r = some g) : occN (hO (goS I g (some r) none H)) (iR I) + 1 = occN (hO H) (iR I) := by
  rw [hO_go, oPut_sn]
  have a := occN_fu (o := hO H) (r := r) (x := none) (iR I)
  simp only [hr, h1, true_and, ne_eq, not_true, not_false_eq_true, if_false, if_true, reduceCtorEq] at a
  omega
end Occ
theorem occ_sh {I : IA} : ∀ (r : Nat) (H : HA), HOk I H → r < iR I → hO H r = none → (∀ k, k < r → hO H k ≠ none) → occN (hO (shS I r H)) (iR I) = occN (hO H) (iR I) := by
  intro r
  induction r with
  | zero => intro H _ _ _ _; rfl
  | succ r ih =>
    intro H hH hr h0 hb
    unfold shS
    obtain ⟨g, hg⟩ : ∃ g, hO H r = some g := Option.ne_none_iff_exists'.mp (hb r (by omega))
    have h1 := go_in hH (g := g) (fr := some r) (s := r + 1) (fun a ha => by cases ha; exact hg) (fun h => by cases h) hr h0 (hH.lt hg).2
    have h2 : ∀ k, hO (goS I g (some r) (some (r + 1)) H) k = if k = r + 1 then some g else if k = r then none else hO H k := by
      intro k
      rw [hO_go, oPut_ss, fu_at, fu_at]
    rw [hg, Option.getD_some, ih _ h1.1 (by omega) (by rw [h2, if_neg (by omega), if_pos rfl]) (fun k hk => by rw [h2, if_neg (by omega), if_neg (by omega)]; exact hb k (by omega)), occ_ss (by omega) hr hg h0]
theorem occ_fill {I : IA} {rule : Nat} : ∀ (f gap : Nat) (H : HA), HOk I H → gap < iR I → hO H gap = none → occN (hO (fillS I rule f gap H)) (iR I) = occN (hO H) (iR I) := by
  intro f
  induction f with
  | zero => intro gap H _ _ _; rfl
  | succ f ih =>
    intro gap H hH hg h0
    unfold fillS
    cases h1 : (bestS I H rule gap (iR I - (gap + 1))).1 with
    | none => rfl
    | some r =>
      obtain ⟨c1, c2, c3⟩ := best_spec _ r h1
      obtain ⟨g, hr⟩ := Option.ne_none_iff_exists'.mp c3
      have h3 := go_in hH (g := g) (fr := some r) (s := gap) (fun a ha => by cases ha; exact hr) (fun h => by cases h) hg h0 (hH.lt hr).2
      simp only [hr, Option.getD_some]
      rw [ih r _ h3.1 (hH.lt hr).1 (by rw [hO_go, oPut_ss, fu_at, if_neg (by omega), fu_at, if_pos rfl]), occ_ss (hH.lt hr).1 hg hr h0]
theorem occ_come {I : IA} {H : HA} (hH : HOk I H) {g : Nat} (hf : gapS I H < iR I) : occN (hO (comeS I g H)) (iR I) = occN (hO H) (iR I) + 1 := by
  obtain ⟨b1, b2, b3⟩ := gap_spec (I := I) (H := H)
  have a := sh_spec (I := I) (gapS I H) (hEv g H) hH hf (b3 hf) b2
  unfold comeS
  rw [occ_ns (by omega) a.2.1, occ_sh _ (hEv g H) hH hf (b3 hf) b2]
  rfl
theorem occ_leave {I : IA} {H : HA} (hH : HOk I H) {g a : Nat} (ha : hO H a = some g) (rule : Option Nat) : occN (hO (leaveS I g rule H)) (iR I) + 1 = occN (hO H) (iR I) := by
  have e : roomS I H g = some a := (room_iff hH).mpr ha
  have h1 := go_out hH ha
  have h2 := hH.lt ha
  unfold leaveS
  rw [e]
  cases rule with
  | none => exact occ_sn h2.1 ha
  | some k =>
    show occN (hO (fillS I k (iR I) a (goS I g (some a) none H))) (iR I) + 1 = _
    rw [occ_fill _ _ _ h1.1 h2.1 (by rw [hO_go, oPut_sn, fu_at, if_pos rfl])]
    exact occ_sn h2.1 ha
/-- a house that fits what came and left -/
def Fit (I : IA) (ins : Nat → Bool) (n : Nat) (H : HA) : Prop := HOk I H ∧ (∀ g, inH H g ↔ ins g = true) ∧ occN (hO H) (iR I) = n
theorem Fit.step {I : IA} {ins : Nat → Bool} {n : Nat} {H : HA} (hI : IOk I) (hF : Fit I ins n H) {e : Ev} (he : ev1 I ins n e) (rl : Ev → Option Nat) : Fit I (nxI ins e) (nxN n e) (evS I rl H e) ∧ (hL (evS I rl H e)).length ≤ (hL H).length + 10 := by
  obtain ⟨f1, f2, f3⟩ := hF
  obtain ⟨e1, e2, e3, e4⟩ := he
  have b1 := hI.1
  have q1 : HOk I (hCl e.2.2.1 H) := f1
  have q2 : ∀ g, inH (hCl e.2.2.1 H) g ↔ ins g = true := f2
  unfold evS nxN
  cases hl : e.2.1 with
  | true =>
    rw [hl] at e4
    simp only [if_true] at e4 ⊢
    obtain ⟨a, ha⟩ := (f2 e.1).mpr e4
    obtain ⟨c1, c2, c3⟩ := leave_spec q1 (H := hCl e.2.2.1 H) ha (rl e)
    have c4 := occ_leave q1 (H := hCl e.2.2.1 H) ha (rl e)
    refine ⟨⟨c1, fun g => ?_, ?_⟩, Nat.le_trans c3 (by show (hL H).length + _ ≤ _; omega)⟩
    · rw [c2, q2]
      unfold nxI
      rw [fu_at, hl]
      by_cases hg : g = e.1
      · rw [if_pos hg]
        exact ⟨fun z => absurd hg z.1, fun z => by cases z⟩
      · rw [if_neg hg]
        exact ⟨fun z => z.2, fun z => ⟨hg, z⟩⟩
    · have : occN (hO (hCl e.2.2.1 H)) (iR I) = n := f3
      omega
  | false =>
    rw [hl] at e4
    simp only [Bool.false_eq_true, if_false] at e4 ⊢
    have h0 : ¬ inH (hCl e.2.2.1 H) e.1 := by
      rw [q2, e4.1]
      exact fun z => by cases z
    have hg : gapS I (hCl e.2.2.1 H) < iR I := by
      rw [gap_full]
      show occN (hO H) (iR I) < iR I
      omega
    obtain ⟨c1, c2, c3⟩ := come_spec q1 (H := hCl e.2.2.1 H) e1 h0 hg
    refine ⟨⟨c1, fun g => ?_, ?_⟩, ?_⟩
    · rw [c2, q2]
      unfold nxI
      rw [fu_at, hl]
      by_cases hg : g = e.1
      · rw [if_pos hg]
        exact ⟨fun _ => rfl, fun _ => Or.inl hg⟩
      · rw [if_neg hg]
        exact ⟨fun z => z.resolve_left hg, Or.inr⟩
    · rw [occ_come q1 hg]
      show occN (hO H) (iR I) + 1 = _
      omega
    · rw [c3]
      show (hL H).length + _ + 1 ≤ _
      omega
theorem Fit.z {I : IA} : Fit I (fun _ => false) 0 h0S := by
  refine ⟨fun r g h => (by cases h), fun g => ⟨fun h => (by obtain ⟨r, h⟩ := h; cases h), fun h => (by cases h)⟩, ?_⟩
  have : ∀ n, occN (hO h0S) n = 0 := by
    intro n
    induction n with
    | zero => rfl
    | succ n ih => unfold occN; rw [ih]; rfl
  exact this _
theorem Fit.run {I : IA} (hI : IOk I) (rl : Ev → Option Nat) : ∀ (es : List Ev) (ins : Nat → Bool) (n : Nat) (H : HA), Fit I ins n H → evG I ins n es → Fit I (es.foldl nxI ins) (es.foldl nxN n) (es.foldl (evS I rl) H) ∧ (hL (es.foldl (evS I rl) H)).length ≤ (hL H).length + 10 * es.length := by
  intro es
  induction es with
  | nil => intro ins n H hF _; exact ⟨hF, by simp⟩
  | cons e es ih =>
    intro ins n H hF hG
    obtain ⟨a, b⟩ := hF.step hI hG.1 rl
    obtain ⟨c, d⟩ := ih _ _ _ a hG.2
    refine ⟨c, ?_⟩
    rw [List.foldl_cons, List.length_cons]
    omega
theorem replay_fit {I : IA} (hI : IOk I) (rl : Ev → Option Nat) {es : List Ev} (hG : evG I (fun _ => false) 0 es) : Fit I (insS es) (nInS es) (replay I rl es) ∧ (hL (replay I rl es)).length ≤ 10 * es.length := by
  have := Fit.run hI rl es _ _ _ (Fit.z (I := I)) hG
  refine ⟨this.1, ?_⟩
  have h2 := this.2
  have h3 : (hL h0S).length = 0 := rfl
  rw [h3] at h2
  unfold replay
  omega
theorem ev_ind {I : IA} {P : HA → Prop} (hgo : ∀ H g fr to, GoOk I H g fr to → P H → P (goS I g fr to H)) (hev : ∀ H g, P H → P (hEv g H)) {ins : Nat → Bool} {n : Nat} {H : HA} (hF : Fit I ins n H) {e : Ev} (he : ev1 I ins n e) (rl : Ev → Option Nat) (hP : P (hCl e.2.2.1 H)) : P (evS I rl H e) := by
  obtain ⟨f1, f2, f3⟩ := hF
  obtain ⟨e1, e2, e3, e4⟩ := he
  have q1 : HOk I (hCl e.2.2.1 H) := f1
  unfold evS
  cases hl : e.2.1 with
  | true =>
    rw [hl] at e4
    simp only [if_true] at e4 ⊢
    obtain ⟨a, ha⟩ := (f2 e.1).mpr e4
    exact leave_ind hgo q1 (H := hCl e.2.2.1 H) ha (rl e) hP
  | false =>
    rw [hl] at e4
    simp only [Bool.false_eq_true, if_false] at e4 ⊢
    have h0 : ¬ inH (hCl e.2.2.1 H) e.1 := fun z => by
      have := (f2 e.1).mp z
      rw [e4.1] at this
      cases this
    have hg : gapS I (hCl e.2.2.1 H) < iR I := by
      rw [gap_full]
      show occN (hO H) (iR I) < iR I
      omega
    exact come_ind hgo q1 (H := hCl e.2.2.1 H) e1 h0 hg (hev _ _ hP)
theorem run_ind {I : IA} (hI : IOk I) {P : HA → Prop} (hgo : ∀ H g fr to, GoOk I H g fr to → P H → P (goS I g fr to H)) (hev : ∀ H g, P H → P (hEv g H)) (hcl : ∀ H m, m ≤ 99999 → P H → P (hCl m H)) (rl : Ev → Option Nat) : ∀ (es : List Ev) (ins : Nat → Bool) (n : Nat) (H : HA), Fit I ins n H → evG I ins n es → P H → P (es.foldl (evS I rl) H) := by
  intro es
  induction es with
  | nil => intro ins n H _ _ hP; exact hP
  | cons e es ih =>
    intro ins n H hF hG hP
    exact ih _ _ _ (hF.step hI hG.1 rl).1 hG.2 (ev_ind hgo hev hF hG.1 rl (hcl _ _ hG.1.2.1 hP))
/-- how late it can be -/
def hcB (H : HA) : Prop := hC H ≤ 99999 + 28 * (hL H).length
theorem miD_le {I : IA} (hI : IOk I) {g : Nat} (hg : g < iG I) {fr to : Option Nat} (hfr : ∀ r, fr = some r → r < iR I) (hto : ∀ r, to = some r → r < iR I) : 1 ≤ miD I g fr to ∧ miD I g fr to ≤ 28 := by
  have h1 : flD I fr to ≤ 9 := stD_le hI hfr hto
  have h2 := (hI.2.2.2.2.1 g hg).1
  unfold miD
  omega
theorem hcB_go {I : IA} (hI : IOk I) {H : HA} {g : Nat} {fr to : Option Nat} (hG : GoOk I H g fr to) (h : hcB H) : hcB (goS I g fr to H) := by
  have := miD_le hI hG.2.1 hG.fr hG.to
  unfold hcB at *
  rw [hC_go, hL_len]
  omega
theorem hcB_cl {H : HA} {m : Nat} (hm : m ≤ 99999) (h : hcB H) : hcB (hCl m H) := by
  unfold hcB at *
  show (if hC H < m then m else hC H) ≤ 99999 + 28 * (hL H).length
  split <;> omega
theorem hcB_run {I : IA} (hI : IOk I) (rl : Ev → Option Nat) {es : List Ev} (hG : evG I (fun _ => false) 0 es) : hcB (replay I rl es) :=
  run_ind hI (P := hcB) (fun H g fr to => hcB_go hI) (fun H g h => h) (fun H m => hcB_cl) rl es _ _ _ Fit.z hG (by unfold hcB; exact Nat.zero_le _)
/-- what can be held -/
def SOk (I : IA) (S : SA) : Prop := (∀ k, sR S = some k → k < iK I) ∧ (sE S).length ≤ 100 ∧ evG I (fun _ => false) 0 (sE S) ∧ (sS S).length ≤ 20 ∧ (∀ x, x ∈ sS S → x.1 < iG I ∧ x.2.1 < iR I ∧ x.2.2 ≤ 99999) ∧ (∀ g, sP S g < 2 ^ iR I ∧ (iG I ≤ g → sP S g = 0)) ∧ (sJ S).length ≤ 7 ∧ (∀ x, x ∈ sJ S → x.1 ≤ 99 ∧ 1 ≤ x.2.1 ∧ x.2.1 ≤ 99 ∧ x.2.2 ≤ 99) ∧ (sB S).length ≤ 7 ∧ (sB S).Nodup ∧ ∀ g, g ∈ sB S → g < iG I ∧ insS (sE S) g = false
/-- the state as the model has it, from a place on -/
def RepSM (o : Nat) (S : SA) (f : Nat → Int32) : Prop := f o = eO (sR S) ∧ f (o + 1) = Int32.ofNat (sE S).length ∧ (∀ (k : Nat) (e : Ev), (sE S)[k]? = some e → f (o + (2 + 4 * k)) = Int32.ofNat e.1 ∧ f (o + (2 + 4 * k + 1)) = eB e.2.1 ∧ f (o + (2 + 4 * k + 2)) = Int32.ofNat e.2.2.1 ∧ f (o + (2 + 4 * k + 3)) = eO e.2.2.2) ∧ f (o + 402) = Int32.ofNat (sS S).length ∧ (∀ (k : Nat) (x : Tri), (sS S)[k]? = some x → f (o + (403 + 3 * k)) = Int32.ofNat x.1 ∧ f (o + (403 + 3 * k + 1)) = Int32.ofNat x.2.1 ∧ f (o + (403 + 3 * k + 2)) = Int32.ofNat x.2.2) ∧ (∀ g, g < 10 → f (o + (463 + g)) = Int32.ofNat (sP S g)) ∧ f (o + 473) = Int32.ofNat (sJ S).length ∧ (∀ (k : Nat) (x : Tri), (sJ S)[k]? = some x → f (o + (474 + 3 * k)) = Int32.ofNat x.1 ∧ f (o + (474 + 3 * k + 1)) = Int32.ofNat x.2.1 ∧ f (o + (474 + 3 * k + 2)) = Int32.ofNat x.2.2) ∧ f (o + 495) = Int32.ofNat (sB S).length ∧ ∀ (k : Nat) (g : Nat), (sB S)[k]? = some g → f (o + (496 + k)) = Int32.ofNat g

