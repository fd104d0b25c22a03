/-! The component: blocks of the heap, and what stays -/
theorem sz_pos (S : Sp) : 1 ≤ sz S := by unfold sz; omega
theorem At_iff {S : Sp} {p : Nat} {D : OD} {h : PH} : At S p D h ↔ ∀ a, p ≤ a → a < p + sz S → h[a]? = some (bcell S p D (a - p)) := by
  constructor
  · intro hA a h1 h2
    have := pt_in (D := D) hA.1 (j := a - p) (by omega)
    rw [hA.2, show p + (a - p) = a by omega] at this
    exact this
  · intro hc
    have h1 := sz_pos S
    have h2 := hc (p + sz S - 1) (by omega) (by omega)
    have h3 : p + sz S - 1 < h.length := by
      rcases Nat.lt_or_ge (p + sz S - 1) h.length with q | q
      · exact q
      · rw [List.getElem?_eq_none q] at h2; cases h2
    refine ⟨by omega, ?_⟩
    apply List.ext_getElem?
    intro a
    rw [pt_get]
    by_cases q : p ≤ a ∧ a < p + sz S
    · rw [hc a q.1 q.2, Option.map_some, if_pos q]
    · cases h[a]? with
      | none => rfl
      | some c => rw [Option.map_some, if_neg q]
/-- but for the places P nothing has changed -/
def Fr (P : Nat → Prop) (h h' : PH) : Prop := ∀ a, ¬ P a → h'[a]? = h[a]?
theorem Fr.rf {P : Nat → Prop} {h : PH} : Fr P h h := fun _ _ => rfl
theorem Fr.tr {P : Nat → Prop} {h h1 h2 : PH} (a : Fr P h h1) (b : Fr P h1 h2) : Fr P h h2 := fun x hx => (b x hx).trans (a x hx)
theorem Fr.up {P Q : Nat → Prop} {h h' : PH} (a : Fr P h h') (q : ∀ x, P x → Q x) : Fr Q h h' := fun x hx => a x (fun z => hx (q x z))
theorem Fr.of {P : Nat → Prop} {S : Sp} {p : Nat} {D : OD} {h : PH} (q : ∀ x, p ≤ x → x < p + sz S → P x) : Fr P h (pt S p D h) := by
  intro a ha
  refine pt_out ?_
  rcases Nat.lt_or_ge a p with z | z
  · exact Or.inl z
  · rcases Nat.lt_or_ge a (p + sz S) with y | y
    · exact absurd (q a z y) ha
    · exact Or.inr y
theorem At.fr {P : Nat → Prop} {S : Sp} {p : Nat} {D : OD} {h h' : PH} (hA : At S p D h) (f : Fr P h h') (hd : ∀ x, p ≤ x → x < p + sz S → ¬ P x) : At S p D h' := by
  rw [At_iff] at *
  intro a h1 h2
  rw [f a (hd a h1 h2)]
  exact hA a h1 h2
theorem At.uq {S : Sp} {p : Nat} {D D' : OD} {h : PH} (hA : At S p D h) (hB : At S p D' h) : pt S p D h = pt S p D' h := by rw [hA.2, hB.2]
/-! an array of ints by itself -/
def Ar (t n p : Nat) (f : Nat → Int32) (h : PH) : Prop := h[p]? = some (.inl (t, n, .inl f))
def pa (t n p : Nat) (f : Nat → Int32) (h : PH) : PH := h.set p (.inl (t, n, .inl f))
theorem pa_get (t n p : Nat) (f : Nat → Int32) (h : PH) (a : Nat) : (pa t n p f h)[a]? = if a = p then (if p < h.length then some (.inl (t, n, .inl f)) else none) else h[a]? := by
  unfold pa
  rw [List.getElem?_set]
  by_cases q : p = a
  · rw [if_pos q, if_pos q.symm]
  · rw [if_neg q, if_neg (fun z => q z.symm)]
theorem pa_len (t n p : Nat) (f : Nat → Int32) (h : PH) : (pa t n p f h).length = h.length := by unfold pa; rw [List.length_set]
theorem Ar.ln {t n p : Nat} {f : Nat → Int32} {h : PH} (a : Ar t n p f h) : p < h.length := by
  rcases Nat.lt_or_ge p h.length with q | q
  · exact q
  · unfold Ar at a
    rw [List.getElem?_eq_none q] at a; cases a
theorem Ar.p2 {t n p : Nat} {f : Nat → Int32} {h : PH} (hp : p < h.length) : Ar t n p f (pa t n p f h) := by
  unfold Ar
  rw [pa_get, if_pos rfl, if_pos hp]
theorem Ar.fr {P : Nat → Prop} {t n p : Nat} {f : Nat → Int32} {h h' : PH} (a : Ar t n p f h) (q : Fr P h h') (hp : ¬ P p) : Ar t n p f h' := by
  unfold Ar
  rw [q p hp]
  exact a
theorem Fr.pa {P : Nat → Prop} {t n p : Nat} {f : Nat → Int32} {h : PH} (hp : P p) : Fr P h (pa t n p f h) := by
  intro a ha
  rw [pa_get, if_neg (by intro z; subst z; exact ha hp)]
theorem Ar.aI {t n p : Nat} {f : Nat → Int32} {h : PH} {i : Int32} (a : Ar t n p f h) (hi : ixok i n) : arI t p i h = some (f i.toNatClampNeg) := by
  unfold arI
  rw [a]
  show (if t = t ∧ ¬ (i < 0 ∨ n ≤ i.toNatClampNeg) then _ else _) = _
  rw [if_pos ⟨rfl, hi⟩]
theorem Ar.eI {t n p : Nat} {f : Nat → Int32} {h : PH} {i x : Int32} (a : Ar t n p f h) (hi : ixok i n) : asI t p i x h = some (pa t n p (upd f i.toNatClampNeg (gnar t x)) h) := by
  unfold asI
  rw [a]
  show (if t = t ∧ ¬ (i < 0 ∨ n ≤ i.toNatClampNeg) then _ else _) = _
  rw [if_pos ⟨rfl, hi⟩]
  rfl
theorem Ar.ln2 {t n p : Nat} {f : Nat → Int32} {h : PH} (a : Ar t n p f h) : alen t p h = some (Int32.ofNat n) := by
  unfold alen
  rw [a]
  show (if t = t then _ else _) = _
  rw [if_pos rfl]
theorem pa_pa (t n p : Nat) (f g : Nat → Int32) (h : PH) : pa t n p f (pa t n p g h) = pa t n p f h := by
  unfold pa
  rw [List.set_set]
theorem Ar.eq {t n p : Nat} {f : Nat → Int32} {h : PH} (a : Ar t n p f h) : pa t n p f h = h := by
  apply List.ext_getElem?
  intro b
  rw [pa_get]
  split
  · rename_i z
    rw [if_pos a.ln, z]
    exact a.symm
  · rfl
/-! filling -/
def fil (n : Nat) (v : Int32) (f : Nat → Int32) : Nat → Int32 := fun j => if j < n then v else f j
theorem fil_s (n : Nat) (v : Int32) (f : Nat → Int32) : upd (fil n v f) n v = fil (n + 1) v f := by
  funext j
  rw [upd_at]
  unfold fil
  by_cases q : j = n
  · rw [if_pos q, if_pos (by omega)]
  · rw [if_neg q]
    by_cases q2 : j < n
    · rw [if_pos q2, if_pos (by omega)]
    · rw [if_neg q2, if_neg (by omega)]
theorem fil_0 (v : Int32) (f : Nat → Int32) : fil 0 v f = f := by
  funext j
  unfold fil
  rw [if_neg (by omega)]
theorem c_fill {N n a : Nat} {v : Int32} {f : Nat → Int32} {h : PH} (hn : n ≤ 1500) (hN : 2000 ≤ N) (hA : Ar 0 n a f h) : f_J7_fill_53178 N a v h = some (pa 0 n a (fil n v f) h) := by
  have lp : ∀ d k m, k + d = n → d < m → gi (fun zk zs => f_J7_fill_53178_5 N zk zs.1 zs.2.1 zs.2.2.1 zs.2.2.2.1 zs.2.2.2.2) m (a, v, Int32.ofNat k, Int32.ofNat n, pa 0 n a (fil k v f) h) = some (pa 0 n a (fil n v f) h) := by
    intro d
    induction d with
    | zero =>
      intro k m hk hm
      have : k = n := by omega
      subst this
      obtain ⟨m, rfl⟩ : ∃ k, m = k + 1 := ⟨m - 1, by omega⟩
      rw [gi_1]
      generalize hz : gi _ m = zk
      dsimp only
      unfold f_J7_fill_53178_5
      rw [if_pos (by rw [n_le (by omega) (by omega)]; exact Nat.le_refl _)]
    | succ d ih =>
      intro k m hk hm
      have ih2 := ih (k + 1) (m - 1) (by omega) (by omega)
      obtain ⟨m, rfl⟩ : ∃ k, m = k + 1 := ⟨m - 1, by omega⟩
      rw [gi_1]
      generalize hz : gi _ m = zk
      dsimp only
      rw [show m + 1 - 1 = m by omega, hz] at ih2
      unfold f_J7_fill_53178_5
      rw [if_neg (by rw [n_le (by omega) (by omega)]; omega), (Ar.p2 hA.ln).eI (ixn (by omega) (by omega)), i_okc (by omega), pa_pa, gnar_0, fil_s, gb_s, gl_s, n_add1]
      exact ih2
  unfold f_J7_fill_53178
  rw [hA.ln2, gb_s]
  have := lp n 0 N (by omega) (by omega)
  rw [fil_0, hA.eq] at this
  exact this
/-- an array of an object, as one by itself -/
theorem At.ar {S : Sp} {p j k t n : Nat} {D : OD} {h : PH} (hA : At S p D h) (hk : S.2.2[j]? = some (k, t, n, 0)) : Ar t n (pl p j) (oa D k) h := by
  have := pt_inA (D := D) hA.1 hk
  rw [hA.2] at this
  exact this
theorem At.pa {S : Sp} {p j k t n : Nat} {D : OD} {h : PH} {f : Nat → Int32} (hA : At S p D h) (hO : Own S) (hk : S.2.2[j]? = some (k, t, n, 0)) : pa t n (pl p j) f h = pt S p (sa D k f) h := by
  have := pt_setA (S := S) (p := p) (D := D) (D' := sa D k f) (h := h) (c := .inl (t, n, .inl f)) hO hk (by
    show _ = Sum.inl (t, n, Sum.inl (oa (sa D k f) k))
    rw [oa_sa, if_pos rfl]) rfl (by
    intro a ha
    unfold acell
    split
    · rw [oa_sa, if_neg ha]
    · rfl
    · rfl)
  rw [hA.2] at this
  exact this
theorem c_fillO {N : Nat} {S : Sp} {p j k n : Nat} {D : OD} {h : PH} {v : Int32} (hn : n ≤ 1500) (hN : 2000 ≤ N) (hF : p + sz S ≤ h.length) (hO : Own S) (hk : S.2.2[j]? = some (k, 0, n, 0)) : f_J7_fill_53178 N (pl p j) v (pt S p D h) = some (pt S p (sa D k (fil n v (oa D k))) h) := by
  have hA := At_pt (D := D) hF
  rw [c_fill hn hN (hA.ar hk), hA.pa hO hk, pt_pt]

