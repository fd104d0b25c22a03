/-! Sets as the bits of a number -/
def msk (p : Nat → Bool) : Nat → Nat
  | 0 => 0
  | n + 1 => msk p n + if p n then 2 ^ n else 0
theorem msk_lt (p : Nat → Bool) : ∀ n, msk p n < 2 ^ n := by
  intro n
  induction n with
  | zero => exact Nat.lt_succ_self 0
  | succ n ih =>
    unfold msk
    rw [Nat.pow_succ]
    split <;> omega
theorem msk_bit (p : Nat → Bool) : ∀ n k, (msk p n).testBit k = (decide (k < n) && p k) := by
  intro n
  induction n with
  | zero => intro k; simp [msk]
  | succ n ih =>
    intro k
    unfold msk
    have h1 := msk_lt p n
    cases hp : p n with
    | true =>
      rw [if_pos rfl, Nat.add_comm]
      have h2 := Nat.two_pow_add_eq_or_of_lt h1 1
      rw [Nat.mul_one] at h2
      rw [h2, Nat.testBit_or, ih, Nat.testBit_two_pow]
      by_cases h3 : n = k
      · subst h3
        simp [hp]
      · have : (k < n + 1) = (k < n) := propext ⟨fun h => by omega, fun h => by omega⟩
        simp [h3, this]
    | false =>
      rw [if_neg (by simp), Nat.add_zero, ih]
      by_cases h3 : n = k
      · subst h3
        simp [hp]
      · have : (k < n + 1) = (k < n) := propext ⟨fun h => by omega, fun h => by omega⟩
        simp [this]
theorem bv_ext {x y : Int32} (h : ∀ i, i < 32 → x.toBitVec.getLsbD i = y.toBitVec.getLsbD i) : x = y := by
  apply Int32.toBitVec_inj.mp
  exact BitVec.eq_of_getLsbD_eq h
theorem bv_n (a i : Nat) : (Int32.ofNat a).toBitVec.getLsbD i = (decide (i < 32) && a.testBit i) := by
  show (BitVec.ofNat 32 a).getLsbD i = _
  rw [BitVec.getLsbD_ofNat]
theorem b_or (a b : Nat) : Int32.ofNat a ||| Int32.ofNat b = Int32.ofNat (a ||| b) := by
  apply bv_ext
  intro i hi
  rw [Int32.toBitVec_or, BitVec.getLsbD_or, bv_n, bv_n, bv_n, Nat.testBit_or]
  simp [hi]
theorem b_and (a b : Nat) : Int32.ofNat a &&& Int32.ofNat b = Int32.ofNat (a &&& b) := by
  apply bv_ext
  intro i hi
  rw [Int32.toBitVec_and, BitVec.getLsbD_and, bv_n, bv_n, bv_n, Nat.testBit_and]
  simp [hi]
theorem b_m1 (i : Nat) (hi : i < 32) : (-1 : Int32).toBitVec.getLsbD i = true := by
  have : (-1 : Int32).toBitVec = BitVec.allOnes 32 := rfl
  rw [this, BitVec.getLsbD_allOnes]
  simp [hi]
theorem b_all (x : Int32) : x &&& -1 = x := by
  apply bv_ext
  intro i hi
  rw [Int32.toBitVec_and, BitVec.getLsbD_and, b_m1 i hi, Bool.and_true]
theorem bv_mi (p : Nat → Bool) {n i : Nat} (hi : i < 32) : (Int32.ofNat (msk p n)).toBitVec.getLsbD i = (decide (i < n) && p i) := by
  rw [bv_n, msk_bit]
  simp [hi]
theorem bv_2 {g i : Nat} (hi : i < 32) : (Int32.ofNat (2 ^ g)).toBitVec.getLsbD i = decide (g = i) := by
  rw [bv_n, Nat.testBit_two_pow]
  simp [hi]
/-- one more in the set -/
theorem msk_or (p : Nat → Bool) {n g : Nat} (hg : g < n) (hn : n ≤ 31) : Int32.ofNat (msk p n) ||| Int32.ofNat (2 ^ g) = Int32.ofNat (msk (fu p g true) n) := by
  apply bv_ext
  intro i hi
  rw [Int32.toBitVec_or, BitVec.getLsbD_or, bv_mi _ hi, bv_mi _ hi, bv_2 hi, fu_at]
  by_cases h : i = g
  · subst h
    simp [hg]
  · simp [h, Ne.symm h]
/-- one out of the set -/
theorem msk_out (p : Nat → Bool) {n g : Nat} (hn : n ≤ 31) : Int32.ofNat (msk p n) &&& (Int32.ofNat (2 ^ g) ^^^ -1) = Int32.ofNat (msk (fu p g false) n) := by
  apply bv_ext
  intro i hi
  rw [Int32.toBitVec_and, BitVec.getLsbD_and, Int32.toBitVec_xor, BitVec.getLsbD_xor, b_m1 i hi, bv_mi _ hi, bv_mi _ hi, bv_2 hi, fu_at]
  by_cases h : i = g
  · subst h
    simp
  · simp [h, Ne.symm h]
theorem msk_and (p q : Nat → Bool) {n : Nat} : Int32.ofNat (msk p n) &&& Int32.ofNat (msk q n) = Int32.ofNat (msk (fun k => p k && q k) n) := by
  apply bv_ext
  intro i hi
  rw [Int32.toBitVec_and, BitVec.getLsbD_and, bv_mi _ hi, bv_mi _ hi, bv_mi _ hi]
  by_cases h : i < n <;> simp [h]
theorem msk_andn (p q : Nat → Bool) {n : Nat} : Int32.ofNat (msk p n) &&& (Int32.ofNat (msk q n) ^^^ -1) = Int32.ofNat (msk (fun k => p k && !q k) n) := by
  apply bv_ext
  intro i hi
  rw [Int32.toBitVec_and, BitVec.getLsbD_and, Int32.toBitVec_xor, BitVec.getLsbD_xor, b_m1 i hi, bv_mi _ hi, bv_mi _ hi, bv_mi _ hi]
  by_cases h : i < n <;> simp [h]
theorem msk_ext {p q : Nat → Bool} : ∀ {n : Nat}, (∀ k, k < n → p k = q k) → msk p n = msk q n := by
  intro n
  induction n with
  | zero => intro _; rfl
  | succ n ih =>
    intro h
    unfold msk
    rw [ih (fun k hk => h k (by omega)), h n (by omega)]
theorem msk_0 : ∀ n, msk (fun _ => false) n = 0 := by
  intro n
  induction n with
  | zero => rfl
  | succ n ih => unfold msk; rw [ih]; rfl
theorem msk_1 : ∀ n, msk (fun _ => true) n + 1 = 2 ^ n := by
  intro n
  induction n with
  | zero => rfl
  | succ n ih => unfold msk; rw [if_pos rfl, Nat.pow_succ]; omega
theorem msk_inj {p q : Nat → Bool} {n : Nat} (h : msk p n = msk q n) {k : Nat} (hk : k < n) : p k = q k := by
  have h1 := msk_bit p n k
  have h2 := msk_bit q n k
  rw [h, h2] at h1
  simpa [hk] using h1.symm
/-- any number that has these bits -/
theorem msk_of {a n : Nat} (h : a < 2 ^ n) : a = msk (fun k => a.testBit k) n := by
  apply Nat.eq_of_testBit_eq
  intro k
  rw [msk_bit]
  by_cases hk : k < n
  · simp [hk]
  · have : a.testBit k = false := Nat.testBit_lt_two_pow (Nat.lt_of_lt_of_le h (Nat.pow_le_pow_right (by omega) (by omega)))
    simp [hk, this]
theorem sh_s : ∀ g, g < 31 → ((Int32.ofNat g &&& 31).toBitVec.smod 32).toNat = g := by decide
/-- whether one is in the set -/
theorem msk_in (p : Nat → Bool) {n g : Nat} (hg : g < 31) : (Int32.ofNat (msk p n) >>> (Int32.ofNat g &&& 31)) &&& 1 = eB (decide (g < n) && p g) := by
  apply bv_ext
  intro i hi
  rw [Int32.toBitVec_and, BitVec.getLsbD_and, Int32.toBitVec_shiftRight]
  unfold BitVec.sshiftRight'
  rw [sh_s g hg, BitVec.getLsbD_sshiftRight]
  have h1 : (1 : Int32).toBitVec.getLsbD i = decide (i = 0) := by
    have : (1 : Int32) = Int32.ofNat (2 ^ 0) := rfl
    rw [this, bv_2 hi]
    simp [eq_comm]
  rw [h1]
  have h2 : ∀ b : Bool, (eB b).toBitVec.getLsbD i = (b && decide (i = 0)) := by
    intro b
    cases b with
    | true => show (1 : Int32).toBitVec.getLsbD i = _; rw [h1]; simp
    | false =>
      show (Int32.ofNat 0).toBitVec.getLsbD i = _
      rw [bv_n]
      simp
  rw [h2]
  by_cases h : i = 0
  · subst h
    rw [Nat.add_zero, bv_mi _ (by omega)]
    have : g < 32 := by omega
    simp [this]
  · simp [h]
theorem nat_in {a n g : Nat} (ha : a < 2 ^ n) (hg : g < 31) : (Int32.ofNat a >>> (Int32.ofNat g &&& 31)) &&& 1 = eB (a.testBit g) := by
  have := msk_in (fun k => a.testBit k) (n := n) hg
  rw [← msk_of ha] at this
  rw [this]
  congr 1
  by_cases h : g < n
  · simp [h]
  · have : a.testBit g = false := Nat.testBit_lt_two_pow (Nat.lt_of_lt_of_le ha (Nat.pow_le_pow_right (by omega) (by omega)))
    simp [h, this]

