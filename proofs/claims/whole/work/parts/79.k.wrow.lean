/-! Ways: the row as it is filled -/
def wC (ps : List Nat) (u r s k : Nat) : Bool := s.testBit k && (ps.getD (cn (s - 2 ^ k)) 0).testBit k && (decide (s - 2 ^ k < u) || (decide (s - 2 ^ k = u) && decide (k < r)))
def wH (R : Nat) (ps : List Nat) (u r s : Nat) : Nat := (if s = 0 then 1 else 0) + wsum (fun k => if wC ps u r s k then wF R ps (s - 2 ^ k) else 0) R
theorem wsum_z {f : Nat → Nat} : ∀ n, (∀ k, k < n → f k = 0) → wsum f n = 0 := by
  intro n
  induction n with
  | zero => intro _; rfl
  | succ n ih =>
    intro h
    show wsum f n + f n = 0
    rw [ih (fun k hk => h k (by omega)), h n (by omega)]
theorem wH_00 (R : Nat) (ps : List Nat) (s : Nat) : wH R ps 0 0 s = if s = 0 then 1 else 0 := by
  unfold wH
  rw [wsum_z R (fun k _ => ?_), Nat.add_zero]
  have : wC ps 0 0 s k = false := by
    unfold wC
    rw [decide_eq_false (Nat.not_lt_zero _), decide_eq_false (p := k < 0) (Nat.not_lt_zero _), Bool.and_false, Bool.or_false, Bool.and_false]
  rw [this]
  rfl
theorem wH_ge {R : Nat} {ps : List Nat} {u s : Nat} (hs : s < 1024) (hu : s ≤ u) (r : Nat) : wH R ps u r s = wF R ps s := by
  unfold wH
  by_cases z : s = 0
  · subst z
    rw [wF_0, if_pos rfl, wsum_z R (fun k _ => ?_)]
    have : wC ps u r 0 k = false := by
      unfold wC
      rw [Nat.zero_testBit, Bool.false_and, Bool.false_and]
    rw [this]
    rfl
  · rw [if_neg z, Nat.zero_add, wF_rec hs z]
    refine wsum_ext R (fun k _ => ?_)
    have : wC ps u r s k = (s.testBit k && (ps.getD (cn (s - 2 ^ k)) 0).testBit k) := by
      unfold wC
      cases hb : s.testBit k with
      | false => rw [Bool.false_and, Bool.false_and]
      | true =>
        have h1 := bit_le hb
        have h2 := Nat.two_pow_pos k
        rw [decide_eq_true (p := s - 2 ^ k < u) (by omega), Bool.true_or, Bool.and_true]
    rw [this]
theorem wH_s {R : Nat} {ps : List Nat} {u r s : Nat} (hr : r < R) : wH R ps u (r + 1) s = wH R ps u r s + if s.testBit r && decide (s - 2 ^ r = u) && (ps.getD (cn u) 0).testBit r then wF R ps u else 0 := by
  unfold wH
  have := wsum_one (f := fun k => if wC ps u r s k then wF R ps (s - 2 ^ k) else 0) (g := fun k => if wC ps u (r + 1) s k then wF R ps (s - 2 ^ k) else 0) (r := r) (x := if s.testBit r && decide (s - 2 ^ r = u) && (ps.getD (cn u) 0).testBit r then wF R ps u else 0) R (fun k hk hne => by
    have : decide (k < r + 1) = decide (k < r) := by
      by_cases y : k < r
      · rw [decide_eq_true y, decide_eq_true (by omega)]
      · rw [decide_eq_false y, decide_eq_false (by omega)]
    show (if wC ps u (r + 1) s k then wF R ps (s - 2 ^ k) else 0) = if wC ps u r s k then wF R ps (s - 2 ^ k) else 0
    unfold wC
    rw [this]) (fun _ => by
    show (if wC ps u (r + 1) s r then wF R ps (s - 2 ^ r) else 0) = (if wC ps u r s r then wF R ps (s - 2 ^ r) else 0) + _
    unfold wC
    rw [decide_eq_true (p := r < r + 1) (by omega), decide_eq_false (p := r < r) (by omega), Bool.and_true, Bool.and_false, Bool.or_false]
    by_cases e : s - 2 ^ r = u
    · rw [e, decide_eq_false (p := u < u) (by omega), decide_eq_true (p := u = u) rfl, Bool.false_or, Bool.and_true, Bool.and_true, Bool.and_false]
      have ff : ¬ (false = true) := by decide
      rw [if_neg ff, Nat.zero_add]
    · rw [decide_eq_false e, Bool.or_false, Bool.and_false, Bool.false_and]
      rfl)
  rw [this, if_pos hr]
  omega
theorem wH_R {R : Nat} {ps : List Nat} {u s : Nat} : wH R ps u R s = wH R ps (u + 1) 0 s := by
  unfold wH
  congr 1
  refine wsum_ext R (fun k hk => ?_)
  have : wC ps u R s k = wC ps (u + 1) 0 s k := by
    unfold wC
    congr 1
    rw [decide_eq_true hk, decide_eq_false (p := k < 0) (Nat.not_lt_zero _), Bool.and_true, Bool.and_false, Bool.or_false]
    by_cases y : s - 2 ^ k < u
    · rw [decide_eq_true y, Bool.true_or, decide_eq_true (by omega)]
    · by_cases x : s - 2 ^ k = u
      · rw [decide_eq_true x, Bool.or_true, decide_eq_true (by omega)]
      · rw [decide_eq_false y, decide_eq_false x, Bool.or_false, decide_eq_false (by omega)]
  rw [this]
theorem wH_sk {R : Nat} {ps : List Nat} {u s : Nat} (h : wF R ps u = 0 ∨ ps.getD (cn u) 0 = 0) : wH R ps u 0 s = wH R ps u R s := by
  unfold wH
  congr 1
  refine wsum_ext R (fun k hk => ?_)
  by_cases x : s - 2 ^ k = u
  · rcases h with h | h
    · rw [x, h]
      split <;> split <;> rfl
    · have : ∀ r, wC ps u r s k = false := by
        intro r
        unfold wC
        rw [x, h, Nat.zero_testBit, Bool.and_false, Bool.false_and]
      rw [this, this]
  · have : wC ps u 0 s k = wC ps u R s k := by
      unfold wC
      rw [decide_eq_false x, Bool.false_and, Bool.false_and]
    rw [this]
theorem or_add {u r n : Nat} (hu : u < 2 ^ n) (hr : r < n) (hn : n ≤ 31) (hb : u.testBit r = false) : Int32.ofNat u ||| Int32.ofNat (2 ^ r) = Int32.ofNat (u + 2 ^ r) ∧ u + 2 ^ r < 2 ^ n ∧ (u + 2 ^ r).testBit r = true := by
  have e0 : u = msk (fun k => u.testBit k) n := msk_of hu
  have e1 : msk (fu (fun k => u.testBit k) r true) n = u + 2 ^ r := by
    have h1 := msk_sub (fu (fun k => u.testBit k) r true) (r := r) (by rw [fu_at, if_pos rfl]) n hr
    have h2 : msk (fu (fu (fun k => u.testBit k) r true) r false) n = u := by
      rw [e0]
      refine msk_ext (fun k _ => ?_)
      rw [fu_at, fu_at, ← e0]
      by_cases w : k = r
      · rw [if_pos w, w, hb]
      · rw [if_neg w, if_neg w]
    omega
  have e2 := msk_or (fun k => u.testBit k) (n := n) hr hn
  rw [← e0, e1] at e2
  refine ⟨e2, ?_, ?_⟩
  · rw [← e1]; exact msk_lt _ _
  · rw [← e1, msk_bit, fu_at, if_pos rfl, decide_eq_true hr]; rfl

