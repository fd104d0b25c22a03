/-! Ways: sets of rooms, counted -/
def cn (s : Nat) : Nat := cntB (fun k => s.testBit k) 10
theorem sb {s r : Nat} (hs : s < 1024) (h : s.testBit r = true) (k : Nat) : (s - 2 ^ r).testBit k = (decide (k ≠ r) && s.testBit k) := by
  have hs : s < 2 ^ 10 := hs
  rw [sub_msk hs h, msk_bit, fu_at]
  by_cases z : k < 10
  · rw [decide_eq_true z, Bool.true_and]
    by_cases w : k = r
    · rw [if_pos w, decide_eq_false (by omega), Bool.false_and]
    · rw [if_neg w, decide_eq_true w, Bool.true_and]
  · have : s.testBit k = false := Nat.testBit_lt_two_pow (Nat.lt_of_lt_of_le hs (Nat.pow_le_pow_right (by omega) (by omega)))
    rw [decide_eq_false z, Bool.false_and, this, Bool.and_false]
theorem cn_sub {s r : Nat} (hs : s < 1024) (h : s.testBit r = true) : cn (s - 2 ^ r) + 1 = cn s := by
  have h0 : (s - 2 ^ r).testBit r = false := by rw [sb hs h]; simp
  have h1 := cntB_fu (p := fun k => (s - 2 ^ r).testBit k) (x := r) h0 10
  have hr : r < 10 := bit_lt (n := 10) hs h
  rw [if_pos hr] at h1
  unfold cn
  rw [← h1]
  refine cntB_ext (fun k _ => ?_)
  rw [fu_at]
  by_cases w : k = r
  · rw [if_pos w, w, h]
  · rw [if_neg w]
    show (s - 2 ^ r).testBit k = _
    rw [sb hs h, decide_eq_true w, Bool.true_and]
theorem cn_0 : ∀ s, s < 1024 → cn s = 0 → s = 0 := by decide +kernel
theorem wrun_a (R : Nat) (ps : List Nat) (p : Nat) : wRun R (ps ++ [p]) = wStep R p (wRun R ps) := by
  unfold wRun
  rw [List.foldl_append]
  rfl
theorem wsum_pos {f : Nat → Nat} : ∀ n, (0 < wsum f n) = (∃ k, k < n ∧ 0 < f k) := by
  intro n
  induction n with
  | zero => exact propext ⟨fun h => (by cases h), fun ⟨k, hk, _⟩ => (by omega)⟩
  | succ n ih =>
    have e : wsum f (n + 1) = wsum f n + f n := rfl
    rw [e]
    refine propext ⟨fun h => ?_, fun ⟨k, hk, h⟩ => ?_⟩
    · rcases Nat.eq_zero_or_pos (f n) with z | z
      · have : 0 < wsum f n := by omega
        rw [ih] at this
        obtain ⟨k, a, b⟩ := this
        exact ⟨k, by omega, b⟩
      · exact ⟨n, by omega, z⟩
    · by_cases z : k = n
      · subst z; omega
      · have : 0 < wsum f n := by rw [ih]; exact ⟨k, by omega, h⟩
        omega
theorem wsum_ext {f g : Nat → Nat} : ∀ n, (∀ k, k < n → f k = g k) → wsum f n = wsum g n := by
  intro n
  induction n with
  | zero => intro _; rfl
  | succ n ih =>
    intro h
    show wsum f n + f n = wsum g n + g n
    rw [ih (fun k hk => h k (by omega)), h n (by omega)]
theorem wsum_mono {f g : Nat → Nat} : ∀ n, (∀ k, k < n → f k ≤ g k) → wsum f n ≤ wsum g n := by
  intro n
  induction n with
  | zero => intro _; exact Nat.le_refl _
  | succ n ih =>
    intro h
    show wsum f n + f n ≤ wsum g n + g n
    have := ih (fun k hk => h k (by omega))
    have := h n (by omega)
    omega
theorem wsum_one {f g : Nat → Nat} {r x : Nat} : ∀ n, (∀ k, k < n → k ≠ r → g k = f k) → (r < n → g r = f r + x) → wsum g n = wsum f n + if r < n then x else 0 := by
  intro n
  induction n with
  | zero => intro _ _; rfl
  | succ n ih =>
    intro h1 h2
    show wsum g n + g n = wsum f n + f n + _
    by_cases z : r = n
    · subst z
      rw [ih (fun k hk => h1 k (by omega)) (fun hh => by omega), if_neg (Nat.lt_irrefl _), if_pos (by omega), h2 (by omega)]
      omega
    · have e : (if r < n + 1 then x else 0) = if r < n then x else 0 := by
        by_cases y : r < n
        · rw [if_pos y, if_pos (by omega)]
        · rw [if_neg y, if_neg (by omega)]
      rw [ih (fun k hk => h1 k (by omega)) (fun hh => h2 (by omega)), h1 n (by omega) (by omega), e]
      omega
theorem pos_step {R may s : Nat} {W : Nat → Nat} : (0 < wStep R may W s) = (∃ r, r < R ∧ may.testBit r = true ∧ s.testBit r = true ∧ 0 < W (s - 2 ^ r)) := by
  unfold wStep
  rw [wsum_pos]
  refine propext ⟨fun ⟨r, a, b⟩ => ?_, fun ⟨r, a, b, c, d⟩ => ⟨r, a, ?_⟩⟩
  · unfold wTm at b
    split at b
    · rename_i z
      rw [Bool.and_eq_true] at z
      exact ⟨r, a, z.1, z.2, b⟩
    · cases b
  · unfold wTm
    rw [b, c]
    exact d
theorem w_sup {R : Nat} : ∀ (n : Nat) (ps : List Nat), ps.length = n → ∀ s, s < 1024 → 0 < wRun R ps s → cn s = n ∧ s < 2 ^ R := by
  intro n
  induction n with
  | zero =>
    intro ps hp s hs h
    have : ps = [] := List.eq_nil_of_length_eq_zero hp
    subst this
    have h : 0 < wZ s := h
    unfold wZ at h
    split at h
    · rename_i z
      subst z
      exact ⟨by decide, Nat.two_pow_pos _⟩
    · cases h
  | succ n ih =>
    intro ps hp s hs h
    rcases List.eq_nil_or_concat ps with z | ⟨l, p, z⟩
    · subst z; cases hp
    · rw [List.concat_eq_append] at z
      subst z
      rw [List.length_append] at hp
      have hp : l.length + 1 = n + 1 := hp
      rw [wrun_a, pos_step] at h
      obtain ⟨r, h1, h2, h3, h4⟩ := h
      have hl := bit_le h3
      obtain ⟨i1, i2⟩ := ih l (by omega) (s - 2 ^ r) (Nat.lt_of_le_of_lt (Nat.sub_le _ _) hs) h4
      refine ⟨by rw [← cn_sub hs h3, i1], ?_⟩
      apply Nat.lt_pow_two_of_testBit
      intro k hk
      have : (s - 2 ^ r).testBit k = false := Nat.testBit_lt_two_pow (Nat.lt_of_lt_of_le i2 (Nat.pow_le_pow_right (by omega) hk))
      rw [sb hs h3, decide_eq_true (by omega), Bool.true_and] at this
      exact this
def fac : Nat → Nat
  | 0 => 1
  | n + 1 => (n + 1) * fac n
theorem fac_pos : ∀ n, 0 < fac n := by
  intro n
  induction n with
  | zero => decide
  | succ n ih => exact Nat.mul_pos (by omega) ih
theorem wsum_bits (s b : Nat) : ∀ n, wsum (fun r => if s.testBit r then b else 0) n = cntB (fun k => s.testBit k) n * b := by
  intro n
  induction n with
  | zero => show 0 = 0 * b; omega
  | succ n ih =>
    show wsum (fun r => if s.testBit r then b else 0) n + (if s.testBit n then b else 0) = (cntB (fun k => s.testBit k) n + if s.testBit n then 1 else 0) * b
    rw [ih, Nat.add_mul]
    split <;> omega
theorem cntB_up (p : Nat → Bool) {n m : Nat} (h : n ≤ m) : cntB p n ≤ cntB p m := by
  induction m with
  | zero => have : n = 0 := by omega
            subst this; exact Nat.le_refl _
  | succ m ih =>
    by_cases z : n = m + 1
    · subst z; exact Nat.le_refl _
    · have := ih (by omega)
      show cntB p n ≤ cntB p m + _
      omega
theorem w_fac {R : Nat} (hR : R ≤ 10) : ∀ (n : Nat) (ps : List Nat), ps.length = n → ∀ s, s < 1024 → wRun R ps s ≤ fac (cn s) := by
  intro n
  induction n with
  | zero =>
    intro ps hp s hs
    have : ps = [] := List.eq_nil_of_length_eq_zero hp
    subst this
    exact Nat.le_trans (wZ_le s) (fac_pos _)
  | succ n ih =>
    intro ps hp s hs
    rcases List.eq_nil_or_concat ps with z | ⟨l, p, z⟩
    · subst z; cases hp
    · rw [List.concat_eq_append] at z
      subst z
      rw [List.length_append] at hp
      have hp : l.length + 1 = n + 1 := hp
      rw [wrun_a]
      unfold wStep
      have h1 : wsum (wTm p s (wRun R l)) R ≤ wsum (fun r => if s.testBit r then fac (cn s - 1) else 0) R := by
        refine wsum_mono R (fun r hr => ?_)
        unfold wTm
        cases hb : s.testBit r with
        | false => rw [Bool.and_false]; exact Nat.le_refl _
        | true =>
          have hl := bit_le hb
          have := ih l (by omega) (s - 2 ^ r) (Nat.lt_of_le_of_lt (Nat.sub_le _ _) hs)
          have e := cn_sub hs hb
          rw [show cn s - 1 = cn (s - 2 ^ r) by omega]
          rw [Bool.and_true, if_pos rfl]
          split
          · exact this
          · exact Nat.zero_le _
      rw [wsum_bits] at h1
      have h2 : cntB (fun k => s.testBit k) R ≤ cn s := cntB_up _ hR
      have h3 := Nat.mul_le_mul_right (fac (cn s - 1)) h2
      rcases Nat.eq_zero_or_pos (cn s) with z | z
      · have h4 := h3
        rw [show cn s * fac (cn s - 1) = 0 by rw [z, Nat.zero_mul]] at h4
        exact Nat.le_trans h1 (Nat.le_trans h4 (Nat.zero_le _))
      · obtain ⟨m, hm⟩ : ∃ m, cn s = m + 1 := ⟨cn s - 1, by omega⟩
        rw [hm] at h1 h3 ⊢
        have : fac (m + 1) = (m + 1) * fac m := rfl
        rw [Nat.add_sub_cancel] at h1 h3
        omega
theorem fac_all : ∀ s, s < 1024 → fac (cn s) ≤ 3628800 := by decide +kernel
theorem fac_sum : wsum (fun s => fac (cn s)) 1024 ≤ 20000000 := by decide +kernel
/-- the row, when it is whole -/
def wF (R : Nat) (ps : List Nat) (s : Nat) : Nat := wRun R (ps.take (cn s)) s
theorem wF_0 (R : Nat) (ps : List Nat) : wF R ps 0 = 1 := by
  unfold wF
  have : cn 0 = 0 := by decide
  rw [this]
  rfl
theorem wF_le {R : Nat} (hR : R ≤ 10) (ps : List Nat) {s : Nat} (hs : s < 1024) : wF R ps s ≤ 3628800 := Nat.le_trans (w_fac hR _ _ rfl s hs) (fac_all s hs)
theorem wF_rec {R : Nat} {ps : List Nat} {s : Nat} (hs : s < 1024) (h0 : s ≠ 0) : wF R ps s = wsum (fun r => if s.testBit r && (ps.getD (cn (s - 2 ^ r)) 0).testBit r then wF R ps (s - 2 ^ r) else 0) R := by
  have hc : cn s ≠ 0 := fun z => h0 (cn_0 s hs z)
  obtain ⟨m, hm⟩ : ∃ m, cn s = m + 1 := ⟨cn s - 1, by omega⟩
  have cs : ∀ r, s.testBit r = true → cn (s - 2 ^ r) = m := fun r hr => by
    have := cn_sub hs hr
    omega
  rcases Nat.lt_or_ge m ps.length with z | z
  · have e1 : ps.take (m + 1) = ps.take m ++ [ps[m]] := by rw [List.take_add_one, List.getElem?_eq_getElem z]; rfl
    have e2 : ps.getD m 0 = ps[m] := by rw [List.getD_eq_getElem?_getD, List.getElem?_eq_getElem z]; rfl
    have e3 : wF R ps s = wStep R ps[m] (wRun R (ps.take m)) s := by unfold wF; rw [hm, e1, wrun_a]
    rw [e3]
    unfold wStep
    refine wsum_ext R (fun r hr => ?_)
    unfold wTm
    cases hb : s.testBit r with
    | false => rw [Bool.and_false, Bool.false_and]; rfl
    | true =>
      rw [cs r hb, e2, Bool.and_true, Bool.true_and]
      unfold wF
      rw [cs r hb]
  · have e1 : wF R ps s = 0 := by
      rcases Nat.eq_zero_or_pos (wF R ps s) with y | y
      · exact y
      · unfold wF at y
        rw [hm, List.take_of_length_le (by omega)] at y
        have := (w_sup (R := R) ps.length ps rfl s hs y).1
        omega
    rw [e1]
    symm
    rcases Nat.eq_zero_or_pos (wsum (fun r => if s.testBit r && (ps.getD (cn (s - 2 ^ r)) 0).testBit r then wF R ps (s - 2 ^ r) else 0) R) with y | y
    · exact y
    · have y := of_eq_true ((wsum_pos R).symm.trans (eq_true y))
      obtain ⟨r, hr, y⟩ := y
      split at y
      · rename_i w
        rw [Bool.and_eq_true] at w
        rw [cs r w.1, List.getD_eq_getElem?_getD, List.getElem?_eq_none z] at w
        have := w.2
        rw [show (none : Option Nat).getD 0 = 0 from rfl, Nat.zero_testBit] at this
        cases this
      · cases y

