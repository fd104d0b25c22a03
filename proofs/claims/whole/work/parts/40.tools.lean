/-! Plain part, tools: numbers, and an object with its arrays as one block of cells. -/
/-! 1. numbers -/
abbrev tI (x : Int32) : Int := x.toInt
theorem i_lt {x y : Int32} : x < y ↔ x.toInt < y.toInt := Int32.lt_iff_toInt_lt
theorem i_le {x y : Int32} : x ≤ y ↔ x.toInt ≤ y.toInt := Int32.le_iff_toInt_le
theorem i_eq {x y : Int32} : x = y ↔ x.toInt = y.toInt := Int32.toInt_inj.symm
theorem i_ne {x y : Int32} : x ≠ y ↔ x.toInt ≠ y.toInt := by rw [Ne, i_eq]
theorem i_cl (x : Int32) : x.toNatClampNeg = x.toInt.toNat := rfl
theorem i_on (k : Nat) : (Int32.ofNat k).toInt = (k : Int).bmod 4294967296 := by
  rw [Int32.toInt_ofNat']
theorem i_ok {k : Nat} (h : k < 2147483648) : (Int32.ofNat k).toInt = (k : Int) := by
  rw [i_on]
  simp only [Int.bmod]
  omega
theorem i_okc {k : Nat} (h : k < 2147483648) : (Int32.ofNat k).toNatClampNeg = k := by
  rw [i_cl, i_ok h]
  omega
theorem i_add (x y : Int32) : (x + y).toInt = (x.toInt + y.toInt).bmod 4294967296 := Int32.toInt_add x y
theorem i_sub (x y : Int32) : (x - y).toInt = (x.toInt - y.toInt).bmod 4294967296 := Int32.toInt_sub x y
theorem i_mul (x y : Int32) : (x * y).toInt = (x.toInt * y.toInt).bmod 4294967296 := Int32.toInt_mul x y
theorem i_addb {x y : Int32} (h1 : -2147483648 ≤ x.toInt + y.toInt) (h2 : x.toInt + y.toInt < 2147483648) : (x + y).toInt = x.toInt + y.toInt := by
  rw [i_add]
  simp only [Int.bmod]
  omega
theorem i_subb {x y : Int32} (h1 : -2147483648 ≤ x.toInt - y.toInt) (h2 : x.toInt - y.toInt < 2147483648) : (x - y).toInt = x.toInt - y.toInt := by
  rw [i_sub]
  simp only [Int.bmod]
  omega
theorem i_mulb {x y : Int32} (h1 : -2147483648 ≤ x.toInt * y.toInt) (h2 : x.toInt * y.toInt < 2147483648) : (x * y).toInt = x.toInt * y.toInt := by
  rw [i_mul]
  simp only [Int.bmod]
  omega
theorem i_rng (x : Int32) : -2147483648 ≤ x.toInt ∧ x.toInt < 2147483648 := ⟨Int32.le_toInt x, Int32.toInt_lt x⟩
theorem i_nn {x : Int32} (h : 0 ≤ x) : x = Int32.ofNat x.toNatClampNeg := by
  have h2 := i_le.mp h
  have h3 := i_rng x
  have h4 : (0 : Int32).toInt = 0 := rfl
  rw [i_eq, i_ok (by rw [i_cl]; omega), i_cl]
  omega
/-! the numbers of counting: Int32.ofNat k -/
theorem n_add (a b : Nat) : Int32.ofNat a + Int32.ofNat b = Int32.ofNat (a + b) := by
  rw [i_eq, i_add, i_on, i_on, i_on]
  simp only [Int.bmod]
  omega
theorem n_sub {a b : Nat} (h : b ≤ a) : Int32.ofNat a - Int32.ofNat b = Int32.ofNat (a - b) := by
  rw [i_eq, i_sub, i_on, i_on, i_on]
  simp only [Int.bmod]
  omega
theorem n_mul (a b : Nat) : Int32.ofNat a * Int32.ofNat b = Int32.ofNat (a * b) := by
  rw [i_eq, i_mul, i_on, i_on, i_on]
  simp only [Int.bmod_mul_bmod, Int.mul_bmod_bmod, Int.bmod_mul_bmod, Int.natCast_mul]
theorem n_addl (a m : Nat) : Int32.ofNat a + (no_index (@OfNat.ofNat Int32 m Int32.instOfNat)) = Int32.ofNat (a + m) := n_add a m
theorem n_ladd (a m : Nat) : (no_index (@OfNat.ofNat Int32 m Int32.instOfNat)) + Int32.ofNat a = Int32.ofNat (m + a) := n_add m a
theorem n_mull (a m : Nat) : Int32.ofNat a * (no_index (@OfNat.ofNat Int32 m Int32.instOfNat)) = Int32.ofNat (a * m) := n_mul a m
theorem n_lmul (a m : Nat) : (no_index (@OfNat.ofNat Int32 m Int32.instOfNat)) * Int32.ofNat a = Int32.ofNat (m * a) := n_mul m a
theorem n_subl {a m : Nat} (h : m ≤ a) : Int32.ofNat a - (no_index (@OfNat.ofNat Int32 m Int32.instOfNat)) = Int32.ofNat (a - m) := n_sub h
theorem n_add1 (a : Nat) : Int32.ofNat a + 1 = Int32.ofNat (a + 1) := n_add a 1
theorem n_subm {a : Nat} (h : 1 ≤ a) : Int32.ofNat a + (-1) = Int32.ofNat (a - 1) := by
  have : (-1 : Int32) = 0 - 1 := by decide
  rw [i_eq, i_add, i_on, i_on]
  have h1 : (-1 : Int32).toInt = -1 := by decide
  rw [h1]
  simp only [Int.bmod]
  omega
theorem n_lt {a b : Nat} (ha : a < 2147483648) (hb : b < 2147483648) : (Int32.ofNat a < Int32.ofNat b) = (a < b) := by
  rw [i_lt, i_ok ha, i_ok hb]
  exact propext ⟨fun h => by omega, fun h => by omega⟩
theorem n_le {a b : Nat} (ha : a < 2147483648) (hb : b < 2147483648) : (Int32.ofNat a ≤ Int32.ofNat b) = (a ≤ b) := by
  rw [i_le, i_ok ha, i_ok hb]
  exact propext ⟨fun h => by omega, fun h => by omega⟩
theorem n_eq {a b : Nat} (ha : a < 2147483648) (hb : b < 2147483648) : (Int32.ofNat a = Int32.ofNat b) = (a = b) := by
  rw [i_eq, i_ok ha, i_ok hb]
  exact propext ⟨fun h => by omega, fun h => by omega⟩
theorem n_ltl {a b : Nat} (ha : a < 2147483648) (hb : b < 2147483648) : (Int32.ofNat a < (no_index (@OfNat.ofNat Int32 b Int32.instOfNat))) = (a < b) := n_lt ha hb
theorem n_llt {a b : Nat} (ha : a < 2147483648) (hb : b < 2147483648) : ((no_index (@OfNat.ofNat Int32 a Int32.instOfNat)) < Int32.ofNat b) = (a < b) := n_lt ha hb
theorem n_lel {a b : Nat} (ha : a < 2147483648) (hb : b < 2147483648) : (Int32.ofNat a ≤ (no_index (@OfNat.ofNat Int32 b Int32.instOfNat))) = (a ≤ b) := n_le ha hb
theorem n_lle {a b : Nat} (ha : a < 2147483648) (hb : b < 2147483648) : ((no_index (@OfNat.ofNat Int32 a Int32.instOfNat)) ≤ Int32.ofNat b) = (a ≤ b) := n_le ha hb
theorem n_eql {a b : Nat} (ha : a < 2147483648) (hb : b < 2147483648) : (Int32.ofNat a = (no_index (@OfNat.ofNat Int32 b Int32.instOfNat))) = (a = b) := n_eq ha hb
theorem n_leq {a b : Nat} (ha : a < 2147483648) (hb : b < 2147483648) : ((no_index (@OfNat.ofNat Int32 a Int32.instOfNat)) = Int32.ofNat b) = (a = b) := n_eq ha hb
theorem i_okl {k : Nat} (h : k < 2147483648) : (no_index (@OfNat.ofNat Int32 k Int32.instOfNat)).toNatClampNeg = k := i_okc h
theorem n_m1l {a : Nat} (ha : a < 2147483648) : (-1 = Int32.ofNat a) = False := by
  rw [i_eq, i_ok ha]
  have h1 : (-1 : Int32).toInt = -1 := by decide
  rw [h1]
  exact propext ⟨fun h => by omega, fun h => h.elim⟩
theorem n_m1 {a : Nat} (ha : a < 2147483648) : (Int32.ofNat a = -1) = False := by
  rw [i_eq, i_ok ha]
  have h1 : (-1 : Int32).toInt = -1 := by decide
  rw [h1]
  exact propext ⟨fun h => by omega, fun h => h.elim⟩
theorem n_lt0 {a : Nat} (ha : a < 2147483648) : (Int32.ofNat a < 0) = False := by
  rw [i_lt, i_ok ha]
  have h1 : (0 : Int32).toInt = 0 := by decide
  rw [h1]
  exact propext ⟨fun h => by omega, fun h => h.elim⟩
theorem n_ge0 {a : Nat} (ha : a < 2147483648) : (0 ≤ Int32.ofNat a) = True := by
  rw [i_le, i_ok ha]
  have h1 : (0 : Int32).toInt = 0 := by decide
  rw [h1]
  exact propext ⟨fun h => trivial, fun h => by omega⟩
/-! 2. how plain methods run -/
theorem gb_s {α β : Type} (a : α) (f : α → Option β) : gb (some a) f = f a := rfl
theorem gc_s {α β : Type} (a : α) (h : PH) (f : α → PH → Option β) : gc (some (a, h)) f = f a h := rfl
theorem gb_m {α β : Type} (o : Option α) (f : α → Option β) : gb o f = match o with
  | some a => f a
  | none => none := rfl
theorem gc_m {α β : Type} (o : Option (α × PH)) (f : α → PH → Option β) : gc o f = match o with
  | some a => f a.1 a.2
  | none => none := rfl
theorem gg_m {β : Type} (b : Bool) (o : Option β) : gg b o = if b = true then o else none := rfl
theorem gl_s {α β : Type} (a : α) (f : α → β) : gl a f = f a := rfl
theorem gg_t {β : Type} (o : Option β) : gg true o = o := rfl
theorem gqm_0 {β : Type} (x : β) (f : Nat → β) : gqm none x f = x := rfl
theorem gqm_1 {β : Type} (x : β) (k : Nat) (f : Nat → β) : gqm (some k) x f = f k := rfl
theorem gi_1 {σ ρ : Type} (B : (σ → Option ρ) → σ → Option ρ) (n : Nat) (s : σ) : gi B (n + 1) s = B (gi B n) s := rfl
/-- a loop: with each step the measure falls and what is held stays held, or the loop ends well -/
theorem gi_run {σ ρ : Type} {B : (σ → Option ρ) → σ → Option ρ} (μ : σ → Nat) (I : σ → Prop) (Q : Option ρ → Prop)
    (step : ∀ s, I s → (∀ zk, Q (B zk s)) ∨ ∃ s', I s' ∧ μ s' < μ s ∧ ∀ zk, B zk s = zk s') : ∀ N s, I s → μ s < N → Q (gi B N s) := by
  intro N
  induction N with
  | zero => intro s _ h; omega
  | succ N ih =>
    intro s hI h
    rcases step s hI with h1 | ⟨s', hI', hm, he⟩
    · exact h1 _
    · show Q (B (gi B N) s)
      rw [he]
      exact ih s' hI' (by omega)
/-! 3. an object with its arrays: its data -/
abbrev OD : Type := (Nat → Int32) × (Nat → Int64) × (Nat → Nat → Int32) × (Nat → Nat → Int64) × (Nat → Value) × (Nat → Nat → Option Nat)
def fu {α : Type} (f : Nat → α) (k : Nat) (x : α) : Nat → α := fun j => if j = k then x else f j
theorem fu_at {α : Type} (f : Nat → α) (k j : Nat) (x : α) : fu f k x j = if j = k then x else f j := rfl
theorem upd_at (f : Nat → Int32) (k j : Nat) (x : Int32) : upd f k x j = if j = k then x else f j := rfl
theorem updL_at (f : Nat → Int64) (k j : Nat) (x : Int64) : vp_updL f k x j = if j = k then x else f j := rfl
def oi (D : OD) (k : Nat) : Int32 := D.1 k
def ol (D : OD) (k : Nat) : Int64 := D.2.1 k
def oa (D : OD) (k : Nat) : Nat → Int32 := D.2.2.1 k
def om (D : OD) (k : Nat) : Nat → Int64 := D.2.2.2.1 k
def ov (D : OD) (k : Nat) : Value := D.2.2.2.2.1 k
def oq (D : OD) (k : Nat) : Nat → Option Nat := D.2.2.2.2.2 k
def si (D : OD) (k : Nat) (v : Int32) : OD := (fu D.1 k v, D.2)
def sl (D : OD) (k : Nat) (v : Int64) : OD := (D.1, fu D.2.1 k v, D.2.2)
def sa (D : OD) (k : Nat) (v : Nat → Int32) : OD := (D.1, D.2.1, fu D.2.2.1 k v, D.2.2.2)
def sm (D : OD) (k : Nat) (v : Nat → Int64) : OD := (D.1, D.2.1, D.2.2.1, fu D.2.2.2.1 k v, D.2.2.2.2)
def sv (D : OD) (k : Nat) (v : Value) : OD := (D.1, D.2.1, D.2.2.1, D.2.2.2.1, fu D.2.2.2.2.1 k v, D.2.2.2.2.2)
def sq (D : OD) (k : Nat) (v : Nat → Option Nat) : OD := (D.1, D.2.1, D.2.2.1, D.2.2.2.1, D.2.2.2.2.1, fu D.2.2.2.2.2 k v)
theorem oi_si (D : OD) (k j : Nat) (v : Int32) : oi (si D k v) j = if j = k then v else oi D j := rfl
theorem oi_sl (D : OD) (k j : Nat) (v : Int64) : oi (sl D k v) j = oi D j := rfl
theorem oi_sa (D : OD) (k j : Nat) (v : Nat → Int32) : oi (sa D k v) j = oi D j := rfl
theorem oi_sm (D : OD) (k j : Nat) (v : Nat → Int64) : oi (sm D k v) j = oi D j := rfl
theorem oi_sv (D : OD) (k j : Nat) (v : Value) : oi (sv D k v) j = oi D j := rfl
theorem oi_sq (D : OD) (k j : Nat) (v : Nat → Option Nat) : oi (sq D k v) j = oi D j := rfl
theorem ol_si (D : OD) (k j : Nat) (v : Int32) : ol (si D k v) j = ol D j := rfl
theorem ol_sl (D : OD) (k j : Nat) (v : Int64) : ol (sl D k v) j = if j = k then v else ol D j := rfl
theorem ol_sa (D : OD) (k j : Nat) (v : Nat → Int32) : ol (sa D k v) j = ol D j := rfl
theorem ol_sm (D : OD) (k j : Nat) (v : Nat → Int64) : ol (sm D k v) j = ol D j := rfl
theorem ol_sv (D : OD) (k j : Nat) (v : Value) : ol (sv D k v) j = ol D j := rfl
theorem ol_sq (D : OD) (k j : Nat) (v : Nat → Option Nat) : ol (sq D k v) j = ol D j := rfl
theorem oa_si (D : OD) (k j : Nat) (v : Int32) : oa (si D k v) j = oa D j := rfl
theorem oa_sl (D : OD) (k j : Nat) (v : Int64) : oa (sl D k v) j = oa D j := rfl
theorem oa_sa (D : OD) (k j : Nat) (v : Nat → Int32) : oa (sa D k v) j = if j = k then v else oa D j := rfl
theorem oa_sm (D : OD) (k j : Nat) (v : Nat → Int64) : oa (sm D k v) j = oa D j := rfl
theorem oa_sv (D : OD) (k j : Nat) (v : Value) : oa (sv D k v) j = oa D j := rfl
theorem oa_sq (D : OD) (k j : Nat) (v : Nat → Option Nat) : oa (sq D k v) j = oa D j := rfl
theorem om_si (D : OD) (k j : Nat) (v : Int32) : om (si D k v) j = om D j := rfl
theorem om_sl (D : OD) (k j : Nat) (v : Int64) : om (sl D k v) j = om D j := rfl
theorem om_sa (D : OD) (k j : Nat) (v : Nat → Int32) : om (sa D k v) j = om D j := rfl
theorem om_sm (D : OD) (k j : Nat) (v : Nat → Int64) : om (sm D k v) j = if j = k then v else om D j := rfl
theorem om_sv (D : OD) (k j : Nat) (v : Value) : om (sv D k v) j = om D j := rfl
theorem om_sq (D : OD) (k j : Nat) (v : Nat → Option Nat) : om (sq D k v) j = om D j := rfl
theorem ov_si (D : OD) (k j : Nat) (v : Int32) : ov (si D k v) j = ov D j := rfl
theorem ov_sl (D : OD) (k j : Nat) (v : Int64) : ov (sl D k v) j = ov D j := rfl
theorem ov_sa (D : OD) (k j : Nat) (v : Nat → Int32) : ov (sa D k v) j = ov D j := rfl
theorem ov_sm (D : OD) (k j : Nat) (v : Nat → Int64) : ov (sm D k v) j = ov D j := rfl
theorem ov_sv (D : OD) (k j : Nat) (v : Value) : ov (sv D k v) j = if j = k then v else ov D j := rfl
theorem ov_sq (D : OD) (k j : Nat) (v : Nat → Option Nat) : ov (sq D k v) j = ov D j := rfl
theorem oq_si (D : OD) (k j : Nat) (v : Int32) : oq (si D k v) j = oq D j := rfl
theorem oq_sl (D : OD) (k j : Nat) (v : Int64) : oq (sl D k v) j = oq D j := rfl
theorem oq_sa (D : OD) (k j : Nat) (v : Nat → Int32) : oq (sa D k v) j = oq D j := rfl
theorem oq_sm (D : OD) (k j : Nat) (v : Nat → Int64) : oq (sm D k v) j = oq D j := rfl
theorem oq_sv (D : OD) (k j : Nat) (v : Value) : oq (sv D k v) j = oq D j := rfl
theorem oq_sq (D : OD) (k j : Nat) (v : Nat → Option Nat) : oq (sq D k v) j = if j = k then v else oq D j := rfl
/-! its shape: number; a kind for each field (0 int, 1 long, 2 any value, c + 3 the array in the cell c + 1); for each array its field, type, length, kind (0 int, 1 long, else references) -/
abbrev Sp : Type := Nat × List Nat × List (Nat × Nat × Nat × Nat)
def pl (p j : Nat) : Nat := p + (j + 1)
def fval (p : Nat) (D : OD) (k c : Nat) : Value := match c with
  | 0 => .int (oi D k)
  | 1 => .long (ol D k)
  | 2 => ov D k
  | c + 3 => .ref (pl p c)
def acell (D : OD) (a : Nat × Nat × Nat × Nat) : va_E := match a.2.2.2 with
  | 0 => .inl (a.2.1, a.2.2.1, .inl (oa D a.1))
  | 1 => .inl (a.2.1, a.2.2.1, .inr (.inl (om D a.1)))
  | _ => .inl (a.2.1, a.2.2.1, .inr (.inr (.inr (.inr (oq D a.1)))))
def bcell (S : Sp) (p : Nat) (D : OD) (j : Nat) : va_E := match j with
  | 0 => .inr (S.1, S.2.1.mapIdx (fun k c => fval p D k c))
  | j + 1 => acell D (S.2.2.getD j (0, 0, 0, 0))
def sz (S : Sp) : Nat := S.2.2.length + 1
/-- the heap with this object's data laid into its cells -/
def pt (S : Sp) (p : Nat) (D : OD) (h : PH) : PH := h.mapIdx (fun a c => if p ≤ a ∧ a < p + sz S then bcell S p D (a - p) else c)
/-- the heap has the object with these data there -/
def At (S : Sp) (p : Nat) (D : OD) (h : PH) : Prop := p + sz S ≤ h.length ∧ pt S p D h = h
theorem pt_get (S : Sp) (p : Nat) (D : OD) (h : PH) (a : Nat) : (pt S p D h)[a]? = h[a]?.map (fun c => if p ≤ a ∧ a < p + sz S then bcell S p D (a - p) else c) := by
  unfold pt
  rw [List.getElem?_mapIdx]
theorem pt_len (S : Sp) (p : Nat) (D : OD) (h : PH) : (pt S p D h).length = h.length := by
  unfold pt
  rw [List.length_mapIdx]
theorem pt_in {S : Sp} {p : Nat} {D : OD} {h : PH} (hF : p + sz S ≤ h.length) {j : Nat} (hj : j < sz S) : (pt S p D h)[p + j]? = some (bcell S p D j) := by
  rw [pt_get, List.getElem?_eq_getElem (by omega), Option.map_some, if_pos ⟨by omega, by omega⟩]
  congr 2
  omega
theorem pt_in0 {S : Sp} {p : Nat} {D : OD} {h : PH} (hF : p + sz S ≤ h.length) : (pt S p D h)[p]? = some (.inr (S.1, S.2.1.mapIdx (fun k c => fval p D k c))) := by
  have := pt_in (D := D) hF (j := 0) (by unfold sz; omega)
  exact this
theorem pt_out {S : Sp} {p : Nat} {D : OD} {h : PH} {a : Nat} (hd : a < p ∨ p + sz S ≤ a) : (pt S p D h)[a]? = h[a]? := by
  rw [pt_get]
  cases h[a]? with
  | none => rfl
  | some c => rw [Option.map_some, if_neg (by omega)]
theorem pt_pt (S : Sp) (p : Nat) (D D' : OD) (h : PH) : pt S p D (pt S p D' h) = pt S p D h := by
  apply List.ext_getElem?
  intro a
  rw [pt_get, pt_get, pt_get]
  cases h[a]? with
  | none => rfl
  | some c =>
    simp only [Option.map_some]
    split <;> rfl
theorem pt_comm {S S' : Sp} {p p' : Nat} {D D' : OD} {h : PH} (hd : p + sz S ≤ p' ∨ p' + sz S' ≤ p) : pt S p D (pt S' p' D' h) = pt S' p' D' (pt S p D h) := by
  apply List.ext_getElem?
  intro a
  rw [pt_get, pt_get, pt_get, pt_get]
  cases h[a]? with
  | none => rfl
  | some c =>
    simp only [Option.map_some]
    split <;> split <;> first | rfl | omega
theorem pt_set {S : Sp} {p : Nat} {D D' : OD} {h : PH} {j : Nat} {c : va_E} (hj : j < sz S) (hc : c = bcell S p D' j) (hn : ∀ i, i < sz S → i ≠ j → bcell S p D i = bcell S p D' i) : (pt S p D h).set (p + j) c = pt S p D' h := by
  apply List.ext_getElem?
  intro a
  rw [List.getElem?_set, pt_get, pt_get, pt_len]
  by_cases h1 : p + j = a
  · rw [if_pos h1]
    subst h1
    by_cases h2 : p + j < h.length
    · rw [if_pos h2, List.getElem?_eq_getElem h2, Option.map_some, if_pos ⟨by omega, by omega⟩, hc]
      congr 2
      omega
    · rw [if_neg h2, List.getElem?_eq_none (by omega)]
      rfl
  · rw [if_neg h1]
    cases h[a]? with
    | none => rfl
    | some c =>
      simp only [Option.map_some]
      split
      · rw [hn (a - p) (by omega) (by omega)]
      · rfl
theorem At.fit {S : Sp} {p : Nat} {D : OD} {h : PH} (hA : At S p D h) : p + sz S ≤ h.length := hA.1
theorem At.eq {S : Sp} {p : Nat} {D : OD} {h : PH} (hA : At S p D h) : pt S p D h = h := hA.2
theorem At_pt {S : Sp} {p : Nat} {D : OD} {h : PH} (hF : p + sz S ≤ h.length) : At S p D (pt S p D h) := ⟨by rw [pt_len]; exact hF, pt_pt S p D D h⟩
theorem At.p2 {S : Sp} {p : Nat} {D D' : OD} {h : PH} (hA : At S p D h) : At S p D' (pt S p D' h) := At_pt hA.1
theorem At.out {S S' : Sp} {p p' : Nat} {D D' : OD} {h : PH} (hA : At S p D h) (hd : p + sz S ≤ p' ∨ p' + sz S' ≤ p) : At S p D (pt S' p' D' h) := by
  refine ⟨by rw [pt_len]; exact hA.1, ?_⟩
  rw [pt_comm hd, hA.2]
theorem At.ex {S : Sp} {p : Nat} {D : OD} {h : PH} (hA : At S p D h) : ∃ h0 : PH, p + sz S ≤ h0.length ∧ h = pt S p D h0 := ⟨h, hA.1, hA.2.symm⟩
theorem At.ofs {S S' : Sp} {p p' : Nat} {D D' : OD} {h : PH} (hA : At S p D (pt S' p' D' h)) (hd : p + sz S ≤ p' ∨ p' + sz S' ≤ p) (h0 : At S' p' D' h) : At S p D h := by
  rw [h0.eq] at hA
  exact hA
/-! 4. what the plain heap answers of an object -/
theorem fv_get {S : Sp} {p k : Nat} {D : OD} : (S.2.1.mapIdx (fun k c => fval p D k c))[k]? = S.2.1[k]?.map (fun c => fval p D k c) := List.getElem?_mapIdx
theorem gfV_pt {S : Sp} {p k c : Nat} {D : OD} {h : PH} (hF : p + sz S ≤ h.length) (hk : S.2.1[k]? = some c) : gfV S.1 k p (pt S p D h) = some (fval p D k c) := by
  unfold gfV
  rw [pt_in0 hF]
  simp only [if_true, fv_get, hk, Option.map_some]
theorem gfI_pt {S : Sp} {p k ci : Nat} {D : OD} {h : PH} (hF : p + sz S ≤ h.length) (hc : S.1 = ci) (hk : S.2.1[k]? = some 0) : gfI ci k p (pt S p D h) = some (oi D k) := by
  subst hc
  unfold gfI
  rw [gfV_pt hF hk]
  rfl
theorem gfL_pt {S : Sp} {p k ci : Nat} {D : OD} {h : PH} (hF : p + sz S ≤ h.length) (hc : S.1 = ci) (hk : S.2.1[k]? = some 1) : gfL ci k p (pt S p D h) = some (ol D k) := by
  subst hc
  unfold gfL
  rw [gfV_pt hF hk]
  rfl
theorem gfR_pt {S : Sp} {p k ci j : Nat} {D : OD} {h : PH} (hF : p + sz S ≤ h.length) (hc : S.1 = ci) (hk : S.2.1[k]? = some (j + 3)) : gfR ci k p (pt S p D h) = some (pl p j) := by
  subst hc
  unfold gfR
  rw [gfV_pt hF hk]
  rfl
theorem gfR_pv {S : Sp} {p k ci r : Nat} {D : OD} {h : PH} (hF : p + sz S ≤ h.length) (hc : S.1 = ci) (hk : S.2.1[k]? = some 2) (hr : ov D k = .ref r) : gfR ci k p (pt S p D h) = some r := by
  subst hc
  unfold gfR
  rw [gfV_pt hF hk]
  show (match some (ov D k) with
    | some (.ref v) => some v
    | _ => none) = some r
  rw [hr]
theorem gIs_pt {S : Sp} {p ci : Nat} {D : OD} {h : PH} (hF : p + sz S ≤ h.length) (hc : S.1 = ci) : gIs ci p (pt S p D h) = true := by
  unfold gIs
  rw [pt_in0 hF]
  simp only [hc, beq_self_eq_true]
theorem pfV_pt {S : Sp} {p k c : Nat} {D D' : OD} {v : Value} {h : PH} (hF : p + sz S ≤ h.length) (hk : S.2.1[k]? = some c) (hv : fval p D' k c = v) (hn : ∀ j d, S.2.1[j]? = some d → j ≠ k → fval p D j d = fval p D' j d) (ha : ∀ j, bcell S p D (j + 1) = bcell S p D' (j + 1)) : pfV S.1 k p v (pt S p D h) = some (pt S p D' h) := by
  have hkl : k < S.2.1.length := by
    rcases Nat.lt_or_ge k S.2.1.length with q | q
    · exact q
    · rw [List.getElem?_eq_none q] at hk; cases hk
  unfold pfV
  rw [pt_in0 hF]
  simp only [List.length_mapIdx, hkl, and_self, if_true]
  congr 1
  have := pt_set (S := S) (p := p) (D := D) (D' := D') (h := h) (j := 0) (c := .inr (S.1, (S.2.1.mapIdx (fun k c => fval p D k c)).set k v)) (by unfold sz; omega) (by
    show _ = Sum.inr (S.1, S.2.1.mapIdx (fun k c => fval p D' k c))
    congr 2
    apply List.ext_getElem?
    intro a
    rw [List.getElem?_set, List.length_mapIdx, fv_get, fv_get]
    by_cases h1 : k = a
    · subst h1
      rw [if_pos rfl, if_pos hkl, hk, Option.map_some, hv]
    · rw [if_neg h1]
      cases h2 : S.2.1[a]? with
      | none => rfl
      | some d => rw [Option.map_some, Option.map_some, hn a d h2 (fun z => h1 z.symm)]) (by
    intro i _ hi
    cases i with
    | zero => exact absurd rfl hi
    | succ i => exact ha i)
  exact this
theorem pfI_pt {S : Sp} {p k ci : Nat} {D : OD} {v : Int32} {h : PH} (hF : p + sz S ≤ h.length) (hc : S.1 = ci) (hk : S.2.1[k]? = some 0) : pfV ci k p (.int v) (pt S p D h) = some (pt S p (si D k v) h) := by
  subst hc
  refine pfV_pt hF hk ?_ ?_ (fun j => rfl)
  · show Value.int (oi (si D k v) k) = _
    rw [oi_si, if_pos rfl]
  · intro j d _ hjk
    unfold fval
    split
    · rw [oi_si, if_neg hjk]
    · rfl
    · rfl
    · rfl
theorem pfL_pt {S : Sp} {p k ci : Nat} {D : OD} {v : Int64} {h : PH} (hF : p + sz S ≤ h.length) (hc : S.1 = ci) (hk : S.2.1[k]? = some 1) : pfV ci k p (.long v) (pt S p D h) = some (pt S p (sl D k v) h) := by
  subst hc
  refine pfV_pt hF hk ?_ ?_ (fun j => rfl)
  · show Value.long (ol (sl D k v) k) = _
    rw [ol_sl, if_pos rfl]
  · intro j d _ hjk
    unfold fval
    split
    · rfl
    · rw [ol_sl, if_neg hjk]
    · rfl
    · rfl
theorem pfR_pt {S : Sp} {p k ci : Nat} {D : OD} {v : Value} {h : PH} (hF : p + sz S ≤ h.length) (hc : S.1 = ci) (hk : S.2.1[k]? = some 2) : pfV ci k p v (pt S p D h) = some (pt S p (sv D k v) h) := by
  subst hc
  refine pfV_pt hF hk ?_ ?_ (fun j => rfl)
  · show ov (sv D k v) k = _
    rw [ov_sv, if_pos rfl]
  · intro j d _ hjk
    unfold fval
    split
    · rfl
    · rfl
    · rw [ov_sv, if_neg hjk]
    · rfl
theorem pt_inA {S : Sp} {p j : Nat} {D : OD} {h : PH} {a : Nat × Nat × Nat × Nat} (hF : p + sz S ≤ h.length) (hk : S.2.2[j]? = some a) : (pt S p D h)[pl p j]? = some (acell D a) := by
  have hl : j < S.2.2.length := by
    rcases Nat.lt_or_ge j S.2.2.length with q | q
    · exact q
    · rw [List.getElem?_eq_none q] at hk; cases hk
  unfold pl
  rw [pt_in hF (j := j + 1) (by unfold sz; omega)]
  show some (acell D (S.2.2.getD j (0, 0, 0, 0))) = _
  rw [List.getD_eq_getElem?_getD, hk]
  rfl
def ixok (i : Int32) (n : Nat) : Prop := ¬ (i < 0 ∨ n ≤ i.toNatClampNeg)
theorem i_lit (n : Nat) : (no_index (@OfNat.ofNat Int32 n Int32.instOfNat)).toInt = (n : Int).bmod 4294967296 := i_on n
theorem ixok_iff {i : Int32} {n : Nat} : ixok i n ↔ 0 ≤ i.toInt ∧ i.toInt < n := by
  unfold ixok
  rw [i_lt, i_cl]
  have : (0 : Int32).toInt = 0 := rfl
  rw [this]
  omega
theorem ixn {k n : Nat} (h : k < n) (hn : n < 2147483648) : ixok (Int32.ofNat k) n := by
  unfold ixok
  rw [n_lt0 (by omega), i_okc (by omega)]
  rintro (h1 | h1)
  · exact h1
  · omega
theorem ixl {k n : Nat} (h : k < n) (hn : n < 2147483648) : ixok (no_index (@OfNat.ofNat Int32 k Int32.instOfNat)) n := ixn h hn
theorem arI_pt {S : Sp} {p j k t n : Nat} {D : OD} {h : PH} {i : Int32} (hF : p + sz S ≤ h.length) (hk : S.2.2[j]? = some (k, t, n, 0)) (hi : ixok i n) : arI t (pl p j) i (pt S p D h) = some (oa D k i.toNatClampNeg) := by
  unfold arI
  rw [pt_inA hF hk]
  show (if t = t ∧ ¬ (i < 0 ∨ n ≤ i.toNatClampNeg) then _ else _) = _
  rw [if_pos ⟨rfl, hi⟩]
theorem arL_pt {S : Sp} {p j k t n : Nat} {D : OD} {h : PH} {i : Int32} (hF : p + sz S ≤ h.length) (hk : S.2.2[j]? = some (k, t, n, 1)) (hi : ixok i n) : arL t (pl p j) i (pt S p D h) = some (om D k i.toNatClampNeg) := by
  unfold arL
  rw [pt_inA hF hk]
  show (if t = t ∧ ¬ (i < 0 ∨ n ≤ i.toNatClampNeg) then _ else _) = _
  rw [if_pos ⟨rfl, hi⟩]
theorem arQ_pt {S : Sp} {p j k t n : Nat} {D : OD} {h : PH} {i : Int32} (hF : p + sz S ≤ h.length) (hk : S.2.2[j]? = some (k, t, n, 2)) (hi : ixok i n) : arQ t (pl p j) i (pt S p D h) = some (oq D k i.toNatClampNeg) := by
  unfold arQ
  rw [pt_inA hF hk]
  show (if t = t ∧ ¬ (i < 0 ∨ n ≤ i.toNatClampNeg) then _ else _) = _
  rw [if_pos ⟨rfl, hi⟩]
theorem alen_pt {S : Sp} {p j k t n r : Nat} {D : OD} {h : PH} (hF : p + sz S ≤ h.length) (hk : S.2.2[j]? = some (k, t, n, r)) : alen t (pl p j) (pt S p D h) = some (Int32.ofNat n) := by
  unfold alen
  rw [pt_inA hF hk]
  match r with
  | 0 => simp [acell]
  | 1 => simp [acell]
  | r + 2 => simp [acell]
/-- every array of the shape has its own field -/
def Own (S : Sp) : Prop := ∀ (i j : Nat) (a b : Nat × Nat × Nat × Nat), S.2.2[i]? = some a → S.2.2[j]? = some b → i ≠ j → a.1 ≠ b.1
theorem pt_setA {S : Sp} {p j k t n r : Nat} {D D' : OD} {h : PH} {c : va_E} (hO : Own S) (hk : S.2.2[j]? = some (k, t, n, r)) (hc : c = acell D' (k, t, n, r)) (h0 : bcell S p D 0 = bcell S p D' 0) (hn : ∀ a : Nat × Nat × Nat × Nat, a.1 ≠ k → acell D a = acell D' a) : (pt S p D h).set (pl p j) c = pt S p D' h := by
  have hl : j < S.2.2.length := by
    rcases Nat.lt_or_ge j S.2.2.length with q | q
    · exact q
    · rw [List.getElem?_eq_none q] at hk; cases hk
  refine pt_set (by unfold sz; omega) ?_ ?_
  · rw [hc]
    show _ = acell D' (S.2.2.getD j (0, 0, 0, 0))
    rw [List.getD_eq_getElem?_getD, hk]
    rfl
  · intro i hi hij
    cases i with
    | zero => exact h0
    | succ i =>
      show acell D (S.2.2.getD i (0, 0, 0, 0)) = acell D' (S.2.2.getD i (0, 0, 0, 0))
      have hl2 : i < S.2.2.length := by unfold sz at hi; omega
      rw [List.getD_eq_getElem?_getD, List.getElem?_eq_getElem hl2]
      exact hn _ (hO i j _ _ (List.getElem?_eq_getElem hl2) hk (by omega))
theorem asI_pt {S : Sp} {p j k t n : Nat} {D : OD} {h : PH} {i x : Int32} (hF : p + sz S ≤ h.length) (hO : Own S) (hk : S.2.2[j]? = some (k, t, n, 0)) (hi : ixok i n) : asI t (pl p j) i x (pt S p D h) = some (pt S p (sa D k (upd (oa D k) i.toNatClampNeg (gnar t x))) h) := by
  unfold asI
  rw [pt_inA hF hk]
  show (if t = t ∧ ¬ (i < 0 ∨ n ≤ i.toNatClampNeg) then some ((pt S p D h).set (pl p j) _) else _) = _
  rw [if_pos ⟨rfl, hi⟩]
  congr 1
  refine pt_setA hO hk ?_ rfl ?_
  · show _ = Sum.inl (t, n, Sum.inl (oa (sa D k _) k))
    rw [oa_sa, if_pos rfl]
  · intro a ha
    unfold acell
    split
    · rw [oa_sa, if_neg ha]
    · rfl
    · rfl
theorem asL_pt {S : Sp} {p j k t n : Nat} {D : OD} {h : PH} {i : Int32} {x : Int64} (hF : p + sz S ≤ h.length) (hO : Own S) (hk : S.2.2[j]? = some (k, t, n, 1)) (hi : ixok i n) : asL t (pl p j) i x (pt S p D h) = some (pt S p (sm D k (vp_updL (om D k) i.toNatClampNeg x)) h) := by
  unfold asL
  rw [pt_inA hF hk]
  show (if t = t ∧ ¬ (i < 0 ∨ n ≤ i.toNatClampNeg) then some ((pt S p D h).set (pl p j) _) else _) = _
  rw [if_pos ⟨rfl, hi⟩]
  congr 1
  refine pt_setA hO hk ?_ rfl ?_
  · show _ = Sum.inl (t, n, Sum.inr (Sum.inl (om (sm D k _) k)))
    rw [om_sm, if_pos rfl]
  · intro a ha
    unfold acell
    split
    · rfl
    · rw [om_sm, if_neg ha]
    · rfl
/-! 5. past another object -/
section Past
variable {S : Sp} {p a : Nat} {D : OD} {h : PH} 
theorem gfV_o {ci k : Nat} (hd : a < p ∨ p + sz S ≤ a) : gfV ci k a (pt S p D h) = gfV ci k a h := by unfold gfV; rw [pt_out hd]
theorem gfI_o {ci k : Nat} (hd : a < p ∨ p + sz S ≤ a) : gfI ci k a (pt S p D h) = gfI ci k a h := by unfold gfI; rw [gfV_o hd]
theorem gfL_o {ci k : Nat} (hd : a < p ∨ p + sz S ≤ a) : gfL ci k a (pt S p D h) = gfL ci k a h := by unfold gfL; rw [gfV_o hd]
theorem gfR_o {ci k : Nat} (hd : a < p ∨ p + sz S ≤ a) : gfR ci k a (pt S p D h) = gfR ci k a h := by unfold gfR; rw [gfV_o hd]
theorem gIs_o {ci : Nat} (hd : a < p ∨ p + sz S ≤ a) : gIs ci a (pt S p D h) = gIs ci a h := by unfold gIs; rw [pt_out hd]
theorem arI_o {t : Nat} {i : Int32} (hd : a < p ∨ p + sz S ≤ a) : arI t a i (pt S p D h) = arI t a i h := by unfold arI; rw [pt_out hd]
theorem arL_o {t : Nat} {i : Int32} (hd : a < p ∨ p + sz S ≤ a) : arL t a i (pt S p D h) = arL t a i h := by unfold arL; rw [pt_out hd]
theorem arQ_o {t : Nat} {i : Int32} (hd : a < p ∨ p + sz S ≤ a) : arQ t a i (pt S p D h) = arQ t a i h := by unfold arQ; rw [pt_out hd]
theorem arR_o {t : Nat} {i : Int32} (hd : a < p ∨ p + sz S ≤ a) : arR t a i (pt S p D h) = arR t a i h := by unfold arR; rw [arQ_o hd]
theorem alen_o {t : Nat} (hd : a < p ∨ p + sz S ≤ a) : alen t a (pt S p D h) = alen t a h := by unfold alen; rw [pt_out hd]
end Past
/-! the same, for a heap that has the object -/
theorem At.gI {S : Sp} {p k ci : Nat} {D : OD} {h : PH} (hA : At S p D h) (hc : S.1 = ci) (hk : S.2.1[k]? = some 0) : gfI ci k p h = some (oi D k) := by
  have := gfI_pt (D := D) hA.1 hc hk
  rwa [hA.2] at this
theorem At.gL {S : Sp} {p k ci : Nat} {D : OD} {h : PH} (hA : At S p D h) (hc : S.1 = ci) (hk : S.2.1[k]? = some 1) : gfL ci k p h = some (ol D k) := by
  have := gfL_pt (D := D) hA.1 hc hk
  rwa [hA.2] at this
theorem At.gR {S : Sp} {p k ci j : Nat} {D : OD} {h : PH} (hA : At S p D h) (hc : S.1 = ci) (hk : S.2.1[k]? = some (j + 3)) : gfR ci k p h = some (pl p j) := by
  have := gfR_pt (D := D) hA.1 hc hk
  rwa [hA.2] at this
theorem At.gV {S : Sp} {p k ci r : Nat} {D : OD} {h : PH} (hA : At S p D h) (hc : S.1 = ci) (hk : S.2.1[k]? = some 2) (hr : ov D k = .ref r) : gfR ci k p h = some r := by
  have := gfR_pv (D := D) hA.1 hc hk hr
  rwa [hA.2] at this
theorem At.is {S : Sp} {p ci : Nat} {D : OD} {h : PH} (hA : At S p D h) (hc : S.1 = ci) : gIs ci p h = true := by
  have := gIs_pt (D := D) hA.1 hc
  rwa [hA.2] at this
theorem At.sI {S : Sp} {p k ci : Nat} {D : OD} {v : Int32} {h : PH} (hA : At S p D h) (hc : S.1 = ci) (hk : S.2.1[k]? = some 0) : pfV ci k p (.int v) h = some (pt S p (si D k v) h) := by
  have := pfI_pt (D := D) (v := v) hA.1 hc hk
  rwa [hA.2] at this
theorem At.sL {S : Sp} {p k ci : Nat} {D : OD} {v : Int64} {h : PH} (hA : At S p D h) (hc : S.1 = ci) (hk : S.2.1[k]? = some 1) : pfV ci k p (.long v) h = some (pt S p (sl D k v) h) := by
  have := pfL_pt (D := D) (v := v) hA.1 hc hk
  rwa [hA.2] at this
theorem At.sV {S : Sp} {p k ci : Nat} {D : OD} {v : Value} {h : PH} (hA : At S p D h) (hc : S.1 = ci) (hk : S.2.1[k]? = some 2) : pfV ci k p v h = some (pt S p (sv D k v) h) := by
  have := pfR_pt (D := D) (v := v) hA.1 hc hk
  rwa [hA.2] at this
theorem At.aI {S : Sp} {p j k t n : Nat} {D : OD} {h : PH} {i : Int32} (hA : At S p D h) (hk : S.2.2[j]? = some (k, t, n, 0)) (hi : ixok i n) : arI t (pl p j) i h = some (oa D k i.toNatClampNeg) := by
  have := arI_pt (D := D) hA.1 hk hi
  rwa [hA.2] at this
theorem At.aL {S : Sp} {p j k t n : Nat} {D : OD} {h : PH} {i : Int32} (hA : At S p D h) (hk : S.2.2[j]? = some (k, t, n, 1)) (hi : ixok i n) : arL t (pl p j) i h = some (om D k i.toNatClampNeg) := by
  have := arL_pt (D := D) hA.1 hk hi
  rwa [hA.2] at this
theorem At.aQ {S : Sp} {p j k t n : Nat} {D : OD} {h : PH} {i : Int32} (hA : At S p D h) (hk : S.2.2[j]? = some (k, t, n, 2)) (hi : ixok i n) : arQ t (pl p j) i h = some (oq D k i.toNatClampNeg) := by
  have := arQ_pt (D := D) hA.1 hk hi
  rwa [hA.2] at this
theorem At.eI {S : Sp} {p j k t n : Nat} {D : OD} {h : PH} {i x : Int32} (hA : At S p D h) (hO : Own S) (hk : S.2.2[j]? = some (k, t, n, 0)) (hi : ixok i n) : asI t (pl p j) i x h = some (pt S p (sa D k (upd (oa D k) i.toNatClampNeg (gnar t x))) h) := by
  have := asI_pt (D := D) (x := x) hA.1 hO hk hi
  rwa [hA.2] at this
theorem At.eL {S : Sp} {p j k t n : Nat} {D : OD} {h : PH} {i : Int32} {x : Int64} (hA : At S p D h) (hO : Own S) (hk : S.2.2[j]? = some (k, t, n, 1)) (hi : ixok i n) : asL t (pl p j) i x h = some (pt S p (sm D k (vp_updL (om D k) i.toNatClampNeg x)) h) := by
  have := asL_pt (D := D) (x := x) hA.1 hO hk hi
  rwa [hA.2] at this
theorem At.ln {S : Sp} {p j k t n r : Nat} {D : OD} {h : PH} (hA : At S p D h) (hk : S.2.2[j]? = some (k, t, n, r)) : alen t (pl p j) h = some (Int32.ofNat n) := by
  have := alen_pt (D := D) hA.1 hk
  rwa [hA.2] at this
theorem gnar_0 (x : Int32) : gnar 0 x = x := rfl

