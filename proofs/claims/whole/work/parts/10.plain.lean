/-! The plain heap: a list of cells, the k-th at the address base + k; references in it are places. -/
abbrev PH : Type := List va_E
/-! what the plain heap answers -/
def gfV (ci k a : Nat) (h : PH) : Option Value := match h[a]? with
  | some (.inr (c, fs)) => if c = ci then fs[k]? else none
  | _ => none
theorem gfV_el {ci k a : Nat} {h : PH} {v : Value} (q : gfV ci k a h = some v) : ∃ fs, h[a]? = some (.inr (ci, fs)) ∧ fs[k]? = some v := by
  unfold gfV at q
  split at q
  · rename_i c fs hc
    split at q
    · rename_i hci
      subst hci
      exact ⟨fs, hc, q⟩
    · cases q
  · cases q
def gfI (ci k a : Nat) (h : PH) : Option Int32 := match gfV ci k a h with
  | some (.int v) => some v
  | _ => none
theorem gfI_el {ci k a : Nat} {h : PH} {v : Int32} (q : gfI ci k a h = some v) : gfV ci k a h = some (.int v) := by
  unfold gfI at q
  split at q
  · rename_i w hw
    cases q
    exact hw
  · cases q
def gfL (ci k a : Nat) (h : PH) : Option Int64 := match gfV ci k a h with
  | some (.long v) => some v
  | _ => none
theorem gfL_el {ci k a : Nat} {h : PH} {v : Int64} (q : gfL ci k a h = some v) : gfV ci k a h = some (.long v) := by
  unfold gfL at q
  split at q
  · rename_i w hw
    cases q
    exact hw
  · cases q
def gfR (ci k a : Nat) (h : PH) : Option Nat := match gfV ci k a h with
  | some (.ref v) => some v
  | _ => none
theorem gfR_el {ci k a : Nat} {h : PH} {v : Nat} (q : gfR ci k a h = some v) : gfV ci k a h = some (.ref v) := by
  unfold gfR at q
  split at q
  · rename_i w hw
    cases q
    exact hw
  · cases q
def pfV (ci k a : Nat) (v : Value) (h : PH) : Option PH := match h[a]? with
  | some (.inr (c, fs)) => if c = ci ∧ k < fs.length then some (h.set a (.inr (c, fs.set k v))) else none
  | _ => none
theorem pfV_el {ci k a : Nat} {v : Value} {h h1 : PH} (q : pfV ci k a v h = some h1) : ∃ fs, h[a]? = some (.inr (ci, fs)) ∧ k < fs.length ∧ h1 = h.set a (.inr (ci, fs.set k v)) := by
  unfold pfV at q
  split at q
  · rename_i c fs hc
    split at q
    · rename_i hci
      obtain ⟨rfl, hk⟩ := hci
      cases q
      exact ⟨fs, hc, hk, rfl⟩
    · cases q
  · cases q
def gnar (t : Nat) (x : Int32) : Int32 := match t with
  | 2 => vp_nar .byte x
  | 3 => vp_nar .boolean x
  | _ => x
def arI (t a : Nat) (i : Int32) (h : PH) : Option Int32 := match h[a]? with
  | some (.inl (t', n, .inl f)) => if t' = t ∧ ¬ (i < 0 ∨ n ≤ i.toNatClampNeg) then some (f i.toNatClampNeg) else none
  | _ => none
theorem arI_el {t a : Nat} {i v : Int32} {h : PH} (q : arI t a i h = some v) : ∃ (n : Nat) (f : Nat → Int32), h[a]? = some (.inl (t, n, .inl f)) ∧ vp_in i n ∧ v = f i.toNatClampNeg := by
  unfold arI at q
  split at q
  · rename_i t' n f hc
    split at q
    · rename_i hci
      obtain ⟨rfl, hk⟩ := hci
      cases q
      exact ⟨n, f, hc, hk, rfl⟩
    · cases q
  · cases q
def asI (t a : Nat) (i x : Int32) (h : PH) : Option PH := match h[a]? with
  | some (.inl (t', n, .inl f)) => if t' = t ∧ ¬ (i < 0 ∨ n ≤ i.toNatClampNeg) then some (h.set a (.inl (t', n, .inl (upd f i.toNatClampNeg (gnar t x))))) else none
  | _ => none
theorem asI_el {t a : Nat} {i x : Int32} {h h1 : PH} (q : asI t a i x h = some h1) : ∃ (n : Nat) (f : Nat → Int32), h[a]? = some (.inl (t, n, .inl f)) ∧ vp_in i n ∧ h1 = h.set a (.inl (t, n, .inl (upd f i.toNatClampNeg (gnar t x)))) := by
  unfold asI at q
  split at q
  · rename_i t' n f hc
    split at q
    · rename_i hci
      obtain ⟨rfl, hk⟩ := hci
      cases q
      exact ⟨n, f, hc, hk, rfl⟩
    · cases q
  · cases q
def arL (t a : Nat) (i : Int32) (h : PH) : Option Int64 := match h[a]? with
  | some (.inl (t', n, .inr (.inl f))) => if t' = t ∧ ¬ (i < 0 ∨ n ≤ i.toNatClampNeg) then some (f i.toNatClampNeg) else none
  | _ => none
theorem arL_el {t a : Nat} {i : Int32} {v : Int64} {h : PH} (q : arL t a i h = some v) : ∃ (n : Nat) (f : Nat → Int64), h[a]? = some (.inl (t, n, .inr (.inl f))) ∧ vp_in i n ∧ v = f i.toNatClampNeg := by
  unfold arL at q
  split at q
  · rename_i t' n f hc
    split at q
    · rename_i hci
      obtain ⟨rfl, hk⟩ := hci
      cases q
      exact ⟨n, f, hc, hk, rfl⟩
    · cases q
  · cases q
def asL (t a : Nat) (i : Int32) (x : Int64) (h : PH) : Option PH := match h[a]? with
  | some (.inl (t', n, .inr (.inl f))) => if t' = t ∧ ¬ (i < 0 ∨ n ≤ i.toNatClampNeg) then some (h.set a (.inl (t', n, .inr (.inl (vp_updL f i.toNatClampNeg x))))) else none
  | _ => none
theorem asL_el {t a : Nat} {i : Int32} {x : Int64} {h h1 : PH} (q : asL t a i x h = some h1) : ∃ (n : Nat) (f : Nat → Int64), h[a]? = some (.inl (t, n, .inr (.inl f))) ∧ vp_in i n ∧ h1 = h.set a (.inl (t, n, .inr (.inl (vp_updL f i.toNatClampNeg x)))) := by
  unfold asL at q
  split at q
  · rename_i t' n f hc
    split at q
    · rename_i hci
      obtain ⟨rfl, hk⟩ := hci
      cases q
      exact ⟨n, f, hc, hk, rfl⟩
    · cases q
  · cases q
/-- an element of an array of references: null or a place -/
def arQ (t a : Nat) (i : Int32) (h : PH) : Option (Option Nat) := match h[a]? with
  | some (.inl (t', n, .inr (.inr (.inr (.inr f))))) => if t' = t ∧ ¬ (i < 0 ∨ n ≤ i.toNatClampNeg) then some (f i.toNatClampNeg) else none
  | _ => none
theorem arQ_el {t a : Nat} {i : Int32} {v : Option Nat} {h : PH} (q : arQ t a i h = some v) : ∃ (n : Nat) (f : Nat → Option Nat), h[a]? = some (.inl (t, n, .inr (.inr (.inr (.inr f))))) ∧ vp_in i n ∧ v = f i.toNatClampNeg := by
  unfold arQ at q
  split at q
  · rename_i t' n f hc
    split at q
    · rename_i hci
      obtain ⟨rfl, hk⟩ := hci
      cases q
      exact ⟨n, f, hc, hk, rfl⟩
    · cases q
  · cases q
def gIs (ci a : Nat) (h : PH) : Bool := match h[a]? with
  | some (.inr (c, _)) => c == ci
  | _ => false
theorem gIs_el {ci a : Nat} {h : PH} (q : gIs ci a h = true) : ∃ fs, h[a]? = some (.inr (ci, fs)) := by
  unfold gIs at q
  split at q
  · rename_i c fs hc
    have := beq_iff_eq.mp q
    subst this
    exact ⟨fs, hc⟩
  · cases q
def asQ (t a ci : Nat) (i : Int32) (x : Nat) (h : PH) : Option PH := match h[a]? with
  | some (.inl (t', n, .inr (.inr (.inr (.inr f))))) => if (t' = t ∧ ¬ (i < 0 ∨ n ≤ i.toNatClampNeg)) ∧ gIs ci x h = true then some (h.set a (.inl (t', n, .inr (.inr (.inr (.inr (va_up f i.toNatClampNeg (some x)))))))) else none
  | _ => none
theorem asQ_el {t a ci x : Nat} {i : Int32} {h h1 : PH} (q : asQ t a ci i x h = some h1) : ∃ (n : Nat) (f : Nat → Option Nat), h[a]? = some (.inl (t, n, .inr (.inr (.inr (.inr f))))) ∧ vp_in i n ∧ gIs ci x h = true ∧ h1 = h.set a (.inl (t, n, .inr (.inr (.inr (.inr (va_up f i.toNatClampNeg (some x))))))) := by
  unfold asQ at q
  split at q
  · rename_i t' n f hc
    split at q
    · rename_i hci
      obtain ⟨⟨rfl, hk⟩, hi⟩ := hci
      cases q
      exact ⟨n, f, hc, hk, hi, rfl⟩
    · cases q
  · cases q
def alen (t a : Nat) (h : PH) : Option Int32 := match h[a]? with
  | some (.inl (t', n, _)) => if t' = t then some (Int32.ofNat n) else none
  | _ => none
theorem alen_el {t a : Nat} {v : Int32} {h : PH} (q : alen t a h = some v) : ∃ x : vp_A, h[a]? = some (.inl (t, x)) ∧ v = Int32.ofNat x.1 := by
  unfold alen at q
  split at q
  · rename_i t' n x hc
    split at q
    · rename_i hci
      subst hci
      cases q
      exact ⟨_, hc, rfl⟩
    · cases q
  · cases q
/-! how a plain method is put together -/
def gb {α β : Type} (o : Option α) (f : α → Option β) : Option β := match o with
  | some a => f a
  | none => none
theorem gb_el {α β : Type} {o : Option α} {f : α → Option β} {r : β} (q : gb o f = some r) : ∃ a, o = some a ∧ f a = some r := by
  cases o with
  | none => cases q
  | some a => exact ⟨a, rfl, q⟩
def gc {α β : Type} (o : Option (α × PH)) (f : α → PH → Option β) : Option β := match o with
  | some a => f a.1 a.2
  | none => none
theorem gc_el {α β : Type} {o : Option (α × PH)} {f : α → PH → Option β} {r : β} (q : gc o f = some r) : ∃ a h, o = some (a, h) ∧ f a h = some r := by
  cases o with
  | none => cases q
  | some a => exact ⟨a.1, a.2, rfl, q⟩
def gl {α β : Type} (e : α) (f : α → β) : β := f e
theorem gl_el {α β : Type} {e x : α} {f : α → β} {r : β} (q : gl e f = r) (hx : x = e) : f x = r := by rw [hx]; exact q
def gg {β : Type} (b : Bool) (o : Option β) : Option β := if b = true then o else none
theorem gg_el {β : Type} {b : Bool} {o : Option β} {r : β} (q : gg b o = some r) : b = true ∧ o = some r := by
  unfold gg at q
  split at q
  · exact ⟨‹_›, q⟩
  · cases q
/-- a loop: its body, with the loop itself for what comes behind -/
def gi {σ ρ : Type} (B : (σ → Option ρ) → σ → Option ρ) : Nat → σ → Option ρ
  | 0 => fun _ => none
  | n + 1 => B (gi B n)
/-- a branch of the plain method -/
theorem gif_t {β : Type} {q : Prop} [Decidable q] {x y : β} {r : β} (hf : (if q then x else y) = r) (hq : q) : x = r := by rw [if_pos hq] at hf; exact hf
theorem gif_f {β : Type} {q : Prop} [Decidable q] {x y : β} {r : β} (hf : (if q then x else y) = r) (hq : ¬ q) : y = r := by rw [if_neg hq] at hf; exact hf
def gqm {β : Type} (v : Option Nat) (x : β) (f : Nat → β) : β := match v with
  | none => x
  | some k => f k
theorem gi_s {σ ρ : Type} {B : (σ → Option ρ) → σ → Option ρ} {n : Nat} {x : σ} {r : ρ} (hf : gi B (n + 1) x = some r) : B (gi B n) x = some r := hf
def arR (t a : Nat) (i : Int32) (h : PH) : Option Nat := match arQ t a i h with
  | some (some k) => some k
  | _ => none
theorem arR_el {t a k : Nat} {i : Int32} {h : PH} (q : arR t a i h = some k) : arQ t a i h = some (some k) := by
  unfold arR at q
  split at q
  · rename_i w hw
    cases q
    exact hw
  · cases q
def gzb (x : Int32) : Bool := decide (narrow .boolean (.int x) = .int x)
abbrev gabs (x : Int32) : Int32 := if 0 ≤ x then x else 0 - x
abbrev gmax (x y : Int32) : Int32 := if x < y then y else x
abbrev gmin (x y : Int32) : Int32 := if y < x then y else x
theorem gqm_n {β : Type} {x : β} {f : Nat → β} {r : β} (hf : gqm none x f = r) : x = r := hf
theorem gqm_s {β : Type} {x : β} {k : Nat} {f : Nat → β} {r : β} (hf : gqm (some k) x f = r) : f k = r := hf
def nwO (ci : Nat) (fs : List Value) (h : PH) : Option (Nat × PH) := some (h.length, h ++ [.inr (ci, fs)])
def nwA (t n : Nat) (h : PH) : Option (Nat × PH) := some (h.length, h ++ [.inl (t, n, match t with
  | 1 => .inr (.inl (fun _ => 0))
  | 4 => .inr (.inr (.inr (.inr (fun _ => none))))
  | 5 => .inr (.inr (.inr (.inr (fun _ => none))))
  | _ => .inl (fun _ => 0))])
def cpI (t sa : Nat) (sp : Int32) (da : Nat) (dp n : Int32) (h : PH) : Option PH := match h[sa]?, h[da]? with
  | some (.inl (t0, n0, .inl f)), some (.inl (t1, n1, .inl g)) => if (t0 = t ∧ t1 = t) ∧ (¬ sp < 0 ∧ ¬ dp < 0 ∧ ¬ n < 0) ∧ sp.toNatClampNeg + n.toNatClampNeg ≤ n0 ∧ dp.toNatClampNeg + n.toNatClampNeg ≤ n1 then some (h.set da (.inl (t1, n1, .inl (va_cpy f g sp.toNatClampNeg dp.toNatClampNeg n.toNatClampNeg)))) else none
  | _, _ => none
theorem cpI_el {t sa da : Nat} {sp dp n : Int32} {h h1 : PH} (q : cpI t sa sp da dp n h = some h1) : ∃ (n0 n1 : Nat) (f g : Nat → Int32), h[sa]? = some (.inl (t, n0, .inl f)) ∧ h[da]? = some (.inl (t, n1, .inl g)) ∧ (¬ sp < 0 ∧ ¬ dp < 0 ∧ ¬ n < 0) ∧ sp.toNatClampNeg + n.toNatClampNeg ≤ n0 ∧ dp.toNatClampNeg + n.toNatClampNeg ≤ n1 ∧ h1 = h.set da (.inl (t, n1, .inl (va_cpy f g sp.toNatClampNeg dp.toNatClampNeg n.toNatClampNeg))) := by
  unfold cpI at q
  split at q
  · rename_i t0 n0 f t1 n1 g hs hd
    split at q
    · rename_i hci
      obtain ⟨⟨rfl, rfl⟩, hk, h4, h5⟩ := hci
      cases q
      exact ⟨n0, n1, f, g, hs, hd, hk, h4, h5, rfl⟩
    · cases q
  · cases q
def cpL (t sa : Nat) (sp : Int32) (da : Nat) (dp n : Int32) (h : PH) : Option PH := match h[sa]?, h[da]? with
  | some (.inl (t0, n0, .inr (.inl f))), some (.inl (t1, n1, .inr (.inl g))) => if (t0 = t ∧ t1 = t) ∧ (¬ sp < 0 ∧ ¬ dp < 0 ∧ ¬ n < 0) ∧ sp.toNatClampNeg + n.toNatClampNeg ≤ n0 ∧ dp.toNatClampNeg + n.toNatClampNeg ≤ n1 then some (h.set da (.inl (t1, n1, .inr (.inl (va_cpy f g sp.toNatClampNeg dp.toNatClampNeg n.toNatClampNeg))))) else none
  | _, _ => none
theorem cpL_el {t sa da : Nat} {sp dp n : Int32} {h h1 : PH} (q : cpL t sa sp da dp n h = some h1) : ∃ (n0 n1 : Nat) (f g : Nat → Int64), h[sa]? = some (.inl (t, n0, .inr (.inl f))) ∧ h[da]? = some (.inl (t, n1, .inr (.inl g))) ∧ (¬ sp < 0 ∧ ¬ dp < 0 ∧ ¬ n < 0) ∧ sp.toNatClampNeg + n.toNatClampNeg ≤ n0 ∧ dp.toNatClampNeg + n.toNatClampNeg ≤ n1 ∧ h1 = h.set da (.inl (t, n1, .inr (.inl (va_cpy f g sp.toNatClampNeg dp.toNatClampNeg n.toNatClampNeg)))) := by
  unfold cpL at q
  split at q
  · rename_i t0 n0 f t1 n1 g hs hd
    split at q
    · rename_i hci
      obtain ⟨⟨rfl, rfl⟩, hk, h4, h5⟩ := hci
      cases q
      exact ⟨n0, n1, f, g, hs, hd, hk, h4, h5, rfl⟩
    · cases q
  · cases q
def gLen : List Nat := [4, 5, 5, 4, 3, 4, 3, 3, 2, 4, 3, 6, 5, 5, 27, 31]
def gByt : List (List Int32) := [[114, 111, 111, 109], [103, 117, 101, 115, 116], [116, 114, 117, 110, 107], [98, 97, 116, 104], [105, 108, 108], [114, 117, 108, 101], [110, 111, 116], [97, 110, 100], [111, 114], [104, 101, 114, 101], [103, 97, 112], [102, 108, 111, 111, 114, 115], [115, 116, 111, 118, 101], [109, 111, 118, 101, 100], [110, 111, 32, 115, 117, 99, 104, 32, 114, 117, 108, 101, 44, 32, 103, 117, 101, 115, 116, 32, 111, 114, 32, 114, 111, 111, 109], [116, 104, 101, 32, 103, 117, 101, 115, 116, 32, 105, 115, 32, 111, 117, 116, 44, 32, 111, 114, 32, 105, 110, 32, 116, 104, 101, 32, 103, 97, 112]]
def slen (k : Nat) : Option Int32 := if k < 16 then some (Int32.ofNat (gLen.getD k 0) >>> ((0 : Int32) &&& 31)) else none
theorem slen_el {k : Nat} {v : Int32} (q : slen k = some v) : k < 16 ∧ v = Int32.ofNat (gLen.getD k 0) >>> ((0 : Int32) &&& 31) := by
  unfold slen at q
  split at q
  · cases q
    exact ⟨‹_›, rfl⟩
  · cases q
def schr (k : Nat) (i : Int32) : Option Int32 := if k < 16 ∧ ¬ i < 0 ∧ i.toNatClampNeg < gLen.getD k 0 then some ((((gByt.getD k []).getD i.toNatClampNeg 0 &&& 255).toUInt32 % 65536).toInt32) else none
theorem gLen_lt : ∀ k, k < 16 → gLen.getD k 0 < 2 ^ 31 := by decide
theorem schr_el {k : Nat} {i v : Int32} (q : schr k i = some v) : k < 16 ∧ ¬ i < 0 ∧ vp_in i (gLen.getD k 0) ∧ i < Int32.ofNat (gLen.getD k 0) ∧ v = (((gByt.getD k []).getD i.toNatClampNeg 0 &&& 255).toUInt32 % 65536).toInt32 := by
  unfold schr at q
  split at q
  · rename_i hc
    obtain ⟨hk, h0, hi⟩ := hc
    cases q
    refine ⟨hk, h0, fun z => ?_, ?_, rfl⟩
    · rcases z with z | z
      · exact h0 z
      · omega
    · obtain ⟨j, hj, rfl⟩ := nI_of h0
      rw [nI_clamp hj] at hi
      exact nI_lt hi (gLen_lt k hk)
  · cases q
def n0X0 : List Value := [.null, .int 0, .int 0]
def n0X1 : List Value := [.null, .null, .null, .null, .int 0, .int 0, .int 0, .int 0, .int 0, .int 0]
def n0X2 : List Value := [.int 0, .int 0, .int 0, .int 0, .int 0, .null, .null, .null, .null, .null, .null, .int 0]
def n0X3 : List Value := [.null, .null, .int 0]
def n0X4 : List Value := [.null, .null, .null, .int 0]
def n0X5 : List Value := [.null, .int 0, .null, .null, .null]
def n0X6 : List Value := [.null, .null]
def n0X7 : List Value := [.null, .int 0, .null]
def n0X8 : List Value := [.null, .null, .null, .null, .null, .int 0]
def n0X9 : List Value := [.null, .null, .null, .null, .null, .null, .null, .int 0, .int 0, .int 0, .int 0]
def n0X10 : List Value := [.null, .int 0, .int 0, .int 0, .int 0, .long 0, .int 0]
def n0X11 : List Value := [.null, .null, .null, .null, .null, .null, .null, .null, .null, .null, .null, .int 0]
def n0X12 : List Value := [.int 0, .null, .int 0, .int 0, .null, .null, .null, .int 0, .int 0, .null, .null, .null, .null, .int 0, .null, .null, .null, .null, .int 0, .null, .null, .null, .null, .int 0, .int 0, .int 0, .int 0, .int 0, .int 0, .null, .int 0, .null, .null, .null, .null, .null, .int 0, .int 0, .int 0, .int 0, .int 0, .null, .int 0, .int 0, .int 0, .int 0, .int 0, .null]
def scr (L : Nat) (xs : Nat → Int32) (i : Int32) : Option Int32 := if ¬ (i < 0 ∨ L ≤ i.toNatClampNeg) then some (xs i.toNatClampNeg) else none
theorem scr_el {L : Nat} {xs : Nat → Int32} {i v : Int32} (q : scr L xs i = some v) : vp_in i L ∧ v = xs i.toNatClampNeg := by
  unfold scr at q
  split at q
  · cases q
    exact ⟨‹_›, rfl⟩
  · cases q
def gom {β : Type} (v : Option Int32) (x : β) (f : Int32 → β) : β := match v with
  | none => x
  | some k => f k
theorem gom_s {β : Type} {x : β} {k : Int32} {f : Int32 → β} {r : β} (hf : gom (some k) x f = r) : f k = r := hf
