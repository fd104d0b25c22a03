/-! The component: letter, trunk -/
/-- when a guest goes the next time -/
def nb (g : Nat) : List Go → Nat
  | [] => 100000000
  | y :: Q => if y.1 = g then y.2.2.2.1 else nb g Q
def cnd (f t si n : Nat) : Prop := (if f ≤ si then si else f) ≤ (if t ≤ n - 1 then t else n - 1)
def semQ (r f t : Nat) : List Go → Nat → Prop
  | [], _ => False
  | x :: Q, g => (x.2.2.1 = some r ∧ x.1 = g ∧ cnd f t x.2.2.2.2 (nb g Q)) ∨ semQ r f t Q g
theorem sty_nb {L : List Go} {g : Nat} : ∀ n e, e + n = L.length → styS L g n e = nb g (L.drop e) := by
  intro n
  induction n with
  | zero =>
    intro e he
    rw [List.drop_of_length_le (by omega)]
    rfl
  | succ n ih =>
    intro e he
    have hl : e < L.length := by omega
    rw [List.drop_eq_getElem_cons hl]
    unfold styS nb
    rw [List.getElem?_eq_getElem hl]
    show (if L[e].1 = g then _ else styS L g n (e + 1)) = _
    rw [ih (e + 1) (by omega)]
theorem trS_iff {L : List Go} {r f t g : Nat} : ∀ n, n ≤ L.length → (trS L r f t n g = true ↔ ∃ k x, k < n ∧ L[k]? = some x ∧ x.2.2.1 = some r ∧ x.1 = g ∧ cnd f t x.2.2.2.2 (nb g (L.drop (k + 1)))) := by
  intro n
  induction n with
  | zero => intro _; exact ⟨fun z => (by cases z), fun ⟨k, x, h, _⟩ => (by omega)⟩
  | succ n ih =>
    intro hn
    have hl : n < L.length := by omega
    have hx : L[n]? = some L[n] := List.getElem?_eq_getElem hl
    have e : trS L r f t (n + 1) g = (trS L r f t n g || (trOk L r f t n L[n] && decide (L[n].1 = g))) := by
      show (match L[n]? with
        | some x => trS L r f t n g || (trOk L r f t n x && decide (x.1 = g))
        | none => trS L r f t n g) = _
      rw [hx]
    rw [e, Bool.or_eq_true, ih (by omega), Bool.and_eq_true, decide_eq_true_eq]
    unfold trOk staysS
    rw [Bool.and_eq_true, decide_eq_true_eq, decide_eq_true_eq, sty_nb _ _ (by omega)]
    constructor
    · rintro (⟨k, x, h1, h2⟩ | ⟨⟨h1, h2⟩, h3⟩)
      · exact ⟨k, x, by omega, h2⟩
      · rw [h3] at h2
        exact ⟨n, L[n], by omega, hx, h1, h3, h2⟩
    · rintro ⟨k, x, h1, h2, h3, h4, h5⟩
      by_cases w : k = n
      · subst w
        rw [hx] at h2
        cases h2
        rw [h4]
        exact Or.inr ⟨⟨h3, h5⟩, rfl⟩
      · exact Or.inl ⟨k, x, by omega, h2, h3, h4, h5⟩
theorem semQ_iff {r f t g : Nat} : ∀ L : List Go, semQ r f t L g ↔ ∃ k x, k < L.length ∧ L[k]? = some x ∧ x.2.2.1 = some r ∧ x.1 = g ∧ cnd f t x.2.2.2.2 (nb g (L.drop (k + 1))) := by
  intro L
  induction L with
  | nil => exact ⟨fun z => z.elim, fun ⟨k, x, h, _⟩ => by cases h⟩
  | cons y L ih =>
    unfold semQ
    rw [ih]
    constructor
    · rintro (h | ⟨k, x, h1, h2⟩)
      · exact ⟨0, y, by simp, rfl, h⟩
      · exact ⟨k + 1, x, by simp; omega, h2⟩
    · rintro ⟨k, x, h1, h2⟩
      cases k with
      | zero =>
        obtain ⟨h3, h4⟩ := h2
        cases h3
        exact Or.inl h4
      | succ k => exact Or.inr ⟨k, x, by simp at h1; omega, h2⟩
abbrev WS : Type := (Nat → Bool) × Option (Nat × Nat)
def adS (s : WS) (gone f : Nat) : Nat → Bool := match s.2 with
  | some o => if o.2 < gone ∧ f < gone then fu s.1 o.1 true else s.1
  | none => s.1
def wiF (r f : Nat) (s : WS) (x : Go) : WS := if x.2.1 = some r then (adS s x.2.2.2.1 f, none) else if x.2.2.1 = some r then (s.1, some (x.1, x.2.2.2.2)) else s
def wiR (r f t : Nat) : List Go → WS → Nat → Bool
  | [], s => adS s (t + 1) f
  | x :: Q, s => if t < x.2.2.2.1 then adS s (t + 1) f else wiR r f t Q (wiF r f s x)
/-- who goes from a room was in it; who comes to one finds it empty -/
def VL (L : List Go) : Prop := ∀ (k : Nat) (x : Go), L[k]? = some x → ∀ r, (x.2.1 = some r ↔ occL (L.take k) r = some x.1) ∧ (x.2.2.1 = some r → occL (L.take k) r = none)
theorem VL_go {I : IA} {H : HA} {g : Nat} {fr to : Option Nat} (hG : GoOk I H g fr to) (q : QL I H) (h : VL (hL H)) : VL (hL (goS I g fr to H)) := by
  intro k x hx r
  rw [hL_go] at hx ⊢
  rcases log_at hx with ⟨y1, y2⟩ | ⟨y1, y2⟩
  · rw [List.take_append_of_le_length (by omega)]
    exact h k x y2 r
  · subst y2
    subst y1
    rw [List.take_append_of_le_length (Nat.le_refl _), List.take_length, q.2.2.2.1 r]
    refine ⟨?_, fun z => (hG.2.2.2.2 r z).2⟩
    have e := go_room hG
    show fr = some r ↔ hO H r = some g
    rw [← e, room_iff hG.1]
theorem VL_run {I : IA} (hI : IOk I) (rl : Ev → Option Nat) {es : List Ev} (hG : evG I (fun _ => false) 0 es) : QL I (replay I rl es) ∧ VL (hL (replay I rl es)) := by
  refine ⟨QL_run hI rl hG, ?_⟩
  have := run_ind hI (P := fun H => QL I H ∧ VL (hL H)) (fun H g fr to h1 h2 => ⟨QL_go hI h1 h2.1, VL_go h1 h2.1 h2.2⟩) (fun H g h => h) (fun H m _ h => ⟨QL_cl m h.1, h.2⟩) rl es _ _ _ Fit.z hG ⟨QL_run hI rl (es := []) trivial, fun k x hx => (by cases hx)⟩
  exact this.2
theorem adS_iff {s : WS} {gone f g : Nat} : adS s gone f g = true ↔ s.1 g = true ∨ ∃ si, s.2 = some (g, si) ∧ si < gone ∧ f < gone := by
  unfold adS
  cases h : s.2 with
  | none => exact ⟨Or.inl, fun z => z.elim id (fun ⟨si, a, _⟩ => by cases a)⟩
  | some o =>
    show (if o.2 < gone ∧ f < gone then fu s.1 o.1 true else s.1) g = true ↔ _
    by_cases c : o.2 < gone ∧ f < gone
    · rw [if_pos c, fu_at]
      by_cases w : g = o.1
      · rw [if_pos w]
        refine ⟨fun _ => Or.inr ⟨o.2, ?_, c⟩, fun _ => rfl⟩
        rw [w]
      · rw [if_neg w]
        refine ⟨Or.inl, fun z => z.elim id (fun ⟨si, a, _⟩ => ?_)⟩
        cases a
        exact absurd rfl w
    · rw [if_neg c]
      refine ⟨Or.inl, fun z => z.elim id (fun ⟨si, a, b⟩ => ?_)⟩
      cases a
      exact absurd b c
theorem nb_gt {g t : Nat} : ∀ Q : List Go, t < 100000000 → (∀ y, y ∈ Q → t < y.2.2.2.1) → t < nb g Q := by
  intro Q
  induction Q with
  | nil => intro h _; exact h
  | cons y Q ih =>
    intro h hy
    unfold nb
    split
    · exact hy y (List.mem_cons_self ..)
    · exact ih h (fun z hz => hy z (List.mem_cons_of_mem _ hz))
theorem semQ_late {r f t g : Nat} : ∀ Q : List Go, (∀ y, y ∈ Q → t < y.2.2.2.1 ∧ y.2.2.2.1 < y.2.2.2.2) → ¬ semQ r f t Q g := by
  intro Q
  induction Q with
  | nil => intro _ z; exact z
  | cons y Q ih =>
    intro hy
    rintro (⟨_, _, z⟩ | z)
    · have := hy y (List.mem_cons_self ..)
      unfold cnd at z
      split at z <;> split at z <;> omega
    · exact ih (fun w hw => hy w (List.mem_cons_of_mem _ hw)) z
theorem wiR_iff {L : List Go} {r f t g : Nat} (hft : f ≤ t) (ht : t < 100000000) (hV : VL L) (h1 : ∀ x, x ∈ L → x.2.2.2.1 < x.2.2.2.2) (h2 : ∀ (i j : Nat) (x y : Go), i < j → L[i]? = some x → L[j]? = some y → x.2.2.2.2 ≤ y.2.2.2.1) : ∀ (Q P : List Go) (s : WS), L = P ++ Q → s.2.map (·.1) = occL P r → (∀ o, s.2 = some o → 1 ≤ o.2) → (wiR r f t Q s g = true ↔ s.1 g = true ∨ (∃ si, s.2 = some (g, si) ∧ cnd f t si (nb g Q)) ∨ semQ r f t Q g) := by
  intro Q
  induction Q with
  | nil =>
    intro P s hL ho h0
    show adS s (t + 1) f g = true ↔ _
    rw [adS_iff]
    have e : nb g [] = 100000000 := rfl
    rw [e]
    unfold cnd semQ
    constructor
    · rintro (z | ⟨si, a, b, c⟩)
      · exact Or.inl z
      · refine Or.inr (Or.inl ⟨si, a, ?_⟩)
        split <;> split <;> omega
    · rintro (z | ⟨si, a, b⟩ | z)
      · exact Or.inl z
      · refine Or.inr ⟨si, a, ?_⟩
        split at b <;> split at b <;> omega
      · exact z.elim
  | cons x Q ih =>
    intro P s hL ho h0
    have hx : L[P.length]? = some x := by
      rw [hL, List.getElem?_append_right (Nat.le_refl _), Nat.sub_self]
      rfl
    have tk : L.take P.length = P := by rw [hL, List.take_append_of_le_length (Nat.le_refl _), List.take_length]
    obtain ⟨v1, v2⟩ := hV P.length x hx r
    rw [tk] at v1 v2
    have bx := h1 x (List.mem_of_getElem? hx)
    have later : ∀ y, y ∈ Q → x.2.2.2.2 ≤ y.2.2.2.1 ∧ y.2.2.2.1 < y.2.2.2.2 := by
      intro y hy
      obtain ⟨j, hj⟩ := List.getElem?_of_mem hy
      have hyL : L[P.length + (j + 1)]? = some y := by
        rw [hL, List.getElem?_append_right (by omega), Nat.add_sub_cancel_left]
        exact hj
      exact ⟨h2 P.length _ x y (by omega) hx hyL, h1 y (List.mem_of_getElem? hyL)⟩
    unfold wiR
    by_cases w : t < x.2.2.2.1
    · -- all that follow begin too late
      rw [if_pos w, adS_iff]
      have lt : ∀ y, y ∈ x :: Q → t < y.2.2.2.1 ∧ y.2.2.2.1 < y.2.2.2.2 := by
        intro y hy
        rcases List.mem_cons.mp hy with z | z
        · rw [z]; exact ⟨w, bx⟩
        · have := later y z
          omega
      have n1 := nb_gt (g := g) (x :: Q) ht (fun y hy => (lt y hy).1)
      have n2 := semQ_late (r := r) (f := f) (g := g) (x :: Q) lt
      constructor
      · rintro (z | ⟨si, a, b, c⟩)
        · exact Or.inl z
        · refine Or.inr (Or.inl ⟨si, a, ?_⟩)
          unfold cnd
          split <;> split <;> omega
      · rintro (z | ⟨si, a, b⟩ | z)
        · exact Or.inl z
        · refine Or.inr ⟨si, a, ?_⟩
          unfold cnd at b
          split at b <;> split at b <;> omega
        · exact (n2 z).elim
    · rw [if_neg w]
      have occ' : occL (P ++ [x]) r = occC r (occL P r) x := by
        unfold occL
        rw [List.foldl_append]
        rfl
      have ih2 := ih (P ++ [x]) (wiF r f s x) (by rw [hL, List.append_assoc]; rfl)
      unfold semQ
      by_cases c1 : x.2.1 = some r
      · -- it goes from the room
        have o1 := v1.mp c1
        have ns : x.2.2.1 ≠ some r := fun z => by rw [v2 z] at o1; cases o1
        have ew : wiF r f s x = (adS s x.2.2.2.1 f, none) := by unfold wiF; rw [if_pos c1]
        rw [ew] at ih2 ⊢
        rw [ih2 (by rw [occ']; unfold occC; rw [if_neg ns, if_pos c1]; rfl) (fun o z => by cases z), adS_iff]
        rw [o1] at ho
        obtain ⟨si0, hs0⟩ : ∃ si, s.2 = some (x.1, si) := by
          cases hs : s.2 with
          | none => rw [hs] at ho; cases ho
          | some o =>
            rw [hs] at ho
            have ho : some o.1 = some x.1 := ho
            exact ⟨o.2, by rw [← Option.some.inj ho]⟩
        constructor
        · rintro ((z | ⟨si, a, b, c⟩) | ⟨si, a, _⟩ | z)
          · exact Or.inl z
          · refine Or.inr (Or.inl ⟨si, a, ?_⟩)
            rw [hs0] at a
            cases a
            unfold nb cnd
            rw [if_pos rfl]
            split <;> split <;> omega
          · cases a
          · exact Or.inr (Or.inr (Or.inr z))
        · rintro (z | ⟨si, a, b⟩ | ⟨z, _⟩ | z)
          · exact Or.inl (Or.inl z)
          · refine Or.inl (Or.inr ⟨si, a, ?_⟩)
            rw [hs0] at a
            cases a
            have := h0 _ hs0
            have this : 1 ≤ si0 := this
            unfold nb cnd at b
            rw [if_pos rfl] at b
            split at b <;> split at b <;> omega
          · exact absurd z ns
          · exact Or.inr (Or.inr z)
      · by_cases c2 : x.2.2.1 = some r
        · -- it comes to the room
          have o2 := v2 c2
          have ew : wiF r f s x = (s.1, some (x.1, x.2.2.2.2)) := by unfold wiF; rw [if_neg c1, if_pos c2]
          rw [ew] at ih2 ⊢
          rw [ih2 (by rw [occ']; unfold occC; rw [if_pos c2]; rfl) (fun o z => by cases z; show 1 ≤ x.2.2.2.2; omega)]
          rw [o2] at ho
          have hs : s.2 = none := by
            cases hs : s.2 with
            | none => rfl
            | some o => rw [hs] at ho; cases ho
          constructor
          · rintro (z | ⟨si, a, b⟩ | z)
            · exact Or.inl z
            · cases a
              exact Or.inr (Or.inr (Or.inl ⟨c2, rfl, b⟩))
            · exact Or.inr (Or.inr (Or.inr z))
          · rintro (z | ⟨si, a, b⟩ | ⟨_, a, b⟩ | z)
            · exact Or.inl z
            · rw [hs] at a; cases a
            · exact Or.inr (Or.inl ⟨_, by rw [a], b⟩)
            · exact Or.inr (Or.inr z)
        · -- it has nothing to do with the room
          have ew : wiF r f s x = s := by unfold wiF; rw [if_neg c1, if_neg c2]
          rw [ew] at ih2 ⊢
          rw [ih2 (by rw [occ']; unfold occC; rw [if_neg c2, if_neg c1]; exact ho) h0]
          have nn : ∀ si, s.2 = some (g, si) → nb g (x :: Q) = nb g Q := by
            intro si hs
            unfold nb
            rw [if_neg]
            · cases Q <;> rfl
            · intro z
              rw [hs] at ho
              have ho : some g = occL P r := ho
              rw [← z] at ho
              exact c1 (v1.mpr ho.symm)
          constructor
          · rintro (z | ⟨si, a, b⟩ | z)
            · exact Or.inl z
            · exact Or.inr (Or.inl ⟨si, a, by rw [nn si a]; exact b⟩)
            · exact Or.inr (Or.inr (Or.inr z))
          · rintro (z | ⟨si, a, b⟩ | ⟨z, _⟩ | z)
            · exact Or.inl z
            · exact Or.inr (Or.inl ⟨si, a, by rw [← nn si a]; exact b⟩)
            · exact absurd z c2
            · exact Or.inr (Or.inr z)
theorem tr_eq {I : IA} {H : HA} (q : QL I H) (v : VL (hL H)) {r f t : Nat} (hft : f ≤ t) (ht : t < 100000000) (g : Nat) : wiR r f t (hL H) (fun _ => false, none) g = trS (hL H) r f t (hL H).length g := by
  rw [Bool.eq_iff_iff, trS_iff _ (Nat.le_refl _), ← semQ_iff, wiR_iff (L := hL H) hft ht v (fun x hx => by
    obtain ⟨k, hk⟩ := List.getElem?_of_mem hx
    exact (q.2.1.1 k x hk).2.2.2.1) q.2.1.2 (hL H) [] (fun _ => false, none) rfl rfl (fun o z => by cases z)]
  exact ⟨fun z => z.elim (fun y => by cases y) (fun y => y.elim (fun ⟨si, a, _⟩ => by cases a) id), fun z => Or.inr (Or.inr z)⟩

