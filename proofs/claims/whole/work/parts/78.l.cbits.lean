/-! Counting bits -/
def cntB (p : Nat → Bool) : Nat → Nat
  | 0 => 0
  | n + 1 => cntB p n + if p n then 1 else 0
def bcI (a : Int32) : Int32 :=
  let x1 := a - (((Int32.toUInt32 a >>> (Int32.toUInt32 1 &&& Int32.toUInt32 31)).toInt32) &&& 1431655765)
  let x2 := (x1 &&& 858993459) + (((Int32.toUInt32 x1 >>> (Int32.toUInt32 2 &&& Int32.toUInt32 31)).toInt32) &&& 858993459)
  let x3 := (x2 + ((Int32.toUInt32 x2 >>> (Int32.toUInt32 4 &&& Int32.toUInt32 31)).toInt32)) &&& 252645135
  let x4 := x3 + ((Int32.toUInt32 x3 >>> (Int32.toUInt32 8 &&& Int32.toUInt32 31)).toInt32)
  let x5 := x4 + ((Int32.toUInt32 x4 >>> (Int32.toUInt32 16 &&& Int32.toUInt32 31)).toInt32)
  x5 &&& 63
theorem bc_all : ∀ n, n < 1024 → bcI (Int32.ofNat n) = Int32.ofNat (cntB (fun k => n.testBit k) 10) := by decide +kernel
theorem c_bitCount {N n : Nat} {h : PH} (hn : n < 1024) : f_J6_bitCount_0f7a4 N (Int32.ofNat n) h = some (Int32.ofNat (cntB (fun k => n.testBit k) 10), h) := by
  rw [← bc_all n hn]
  rfl
theorem cntB_ext {p q : Nat → Bool} : ∀ {n : Nat}, (∀ k, k < n → p k = q k) → cntB p n = cntB q n := by
  intro n
  induction n with
  | zero => intro _; rfl
  | succ n ih =>
    intro h
    unfold cntB
    rw [ih (fun k hk => h k (by omega)), h n (by omega)]
theorem c_bitCountM {N : Nat} {p : Nat → Bool} {h : PH} : f_J6_bitCount_0f7a4 N (Int32.ofNat (msk p 10)) h = some (Int32.ofNat (cntB p 10), h) := by
  rw [c_bitCount (msk_lt p 10)]
  congr 3
  refine cntB_ext (fun k hk => ?_)
  rw [msk_bit, decide_eq_true hk, Bool.true_and]
theorem cntB_le (p : Nat → Bool) : ∀ n, cntB p n ≤ n := by
  intro n
  induction n with
  | zero => exact Nat.le_refl _
  | succ n ih => unfold cntB; split <;> omega
theorem cntB_fu {p : Nat → Bool} {x : Nat} (hp : p x = false) : ∀ n, cntB (fu p x true) n = cntB p n + if x < n then 1 else 0 := by
  intro n
  induction n with
  | zero => rfl
  | succ n ih =>
    unfold cntB
    rw [ih, fu_at]
    by_cases w : n = x
    · subst w
      rw [if_pos rfl, hp, if_neg (by omega), if_pos rfl, if_neg (by decide), if_pos (by omega)]
    · rw [if_neg w]
      by_cases y : x < n
      · have y2 : x < n + 1 := by omega
        rw [if_pos y, if_pos y2]; omega
      · have y2 : ¬ x < n + 1 := by omega
        rw [if_neg y, if_neg y2]; omega
theorem cntB_0 : ∀ n, cntB (fun _ => false) n = 0 := by
  intro n
  induction n with
  | zero => rfl
  | succ n ih => unfold cntB; rw [ih]; rfl
theorem cntB_l {n : Nat} : ∀ (l : List Nat), l.Nodup → (∀ x, x ∈ l → x < n) → cntB (fun g => l.contains g) n = l.length := by
  intro l
  induction l with
  | nil => intro _ _; exact cntB_0 n
  | cons x l ih =>
    intro hd hx
    have h1 := List.nodup_cons.mp hd
    have h2 := ih h1.2 (fun y hy => hx y (List.mem_cons_of_mem _ hy))
    have h3 : (fun g => (x :: l).contains g) = fu (fun g => l.contains g) x true := by
      funext g
      rw [fu_at, List.contains_cons]
      by_cases w : g = x
      · rw [if_pos w, beq_iff_eq.mpr w, Bool.true_or]
      · rw [if_neg w, beq_eq_false_iff_ne.mpr w, Bool.false_or]
    rw [h3, cntB_fu (by simp [h1.1]) n, h2, if_pos (hx x (List.mem_cons_self ..))]
    rfl

