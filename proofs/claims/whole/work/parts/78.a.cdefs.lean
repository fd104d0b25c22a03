/-! The component: all that it holds -/
def rlI (i : Nat) : Option Nat := match i with
  | 0 => none
  | k + 1 => some k
/-- the rows of sightings by minutes -/
def insT (x : Tri) : List Tri → List Tri
  | [] => [x]
  | y :: l => if x.2.2 < y.2.2 then x :: y :: l else y :: insT x l
def srtT (l : List Tri) : List Tri := l.foldl (fun a x => insT x a) []
def RepTri (l : List Tri) (D : OD) : Prop := ∀ (k : Nat) (x : Tri), l[k]? = some x → oa D 0 k = Int32.ofNat x.1 ∧ oa D 1 k = Int32.ofNat x.2.1 ∧ oa D 2 k = Int32.ofNat x.2.2
def r9 (S : SA) (q : Nat) (h : PH) : Prop := ∃ D, At sX9 q D h ∧ (ov D 0 = .ref 4 ∧ ov D 1 = .ref (q + 1) ∧ ov D 2 = .ref (q + 6) ∧ ov D 3 = .ref (q + 7) ∧ ov D 4 = .ref (q + 9) ∧ ov D 5 = .ref (q + 15) ∧ ov D 6 = .ref (q + 18)) ∧ oi D 7 = Int32.ofNat (msk (fun g => (sB S).contains g) 10) ∧ oi D 8 = eO (sR S) ∧ oi D 9 = Int32.ofNat (lastM (sE S)) ∧ oi D 10 = Int32.ofNat (sE S).length
def r1 (I : IA) (H : HA) (p : Nat) (h : PH) : Prop := ∃ D, At sX1 p D h ∧ RepH I H D
def rTr (q : Nat) (h : PH) : Prop := ∃ f, h[q + 6]? = some (.inl (4, 5, .inr (.inr (.inr (.inr f))))) ∧ ∀ i, i < 5 → f i = some (q + 22 + 5 * i)
def r0 (H : HA) (p : Nat) (h : PH) : Prop := ∃ D, At sX0 p D h ∧ RepD H D
def r8 (l : List Tri) (p : Nat) (h : PH) : Prop := ∃ D, At sX8 p D h ∧ oi D 5 = Int32.ofNat l.length ∧ RepTri (srtT l) D
def r6 (P : Nat → Nat) (p : Nat) (h : PH) : Prop := ∃ D, At sX6 p D h ∧ ∀ g, g < 10 → oa D 0 g = Int32.ofNat (P g)
def r4 (J : List Tri) (p : Nat) (h : PH) : Prop := ∃ D, At sX4 p D h ∧ oi D 3 = Int32.ofNat J.length ∧ RepTri J D
def rTs (I : IA) (es : List Ev) (q : Nat) (h : PH) : Prop := ∀ i, i < 5 → ∃ D, At sX1 (q + 22 + 5 * i) D h ∧ (i ≤ iK I → RepH I (replay I (fun _ => rlI i) es) D)
abbrev hR (I : IA) (S : SA) : HA := replay I (fun e => e.2.2.2) (sE S)
/-- a state, 47 places long -/
def RSt (I : IA) (S : SA) (q : Nat) (h : PH) : Prop := r9 S q h ∧ r1 I (hR I S) (q + 1) h ∧ rTr q h ∧ r0 (hR I S) (q + 7) h ∧ r8 (sS S) (q + 9) h ∧ r6 (sP S) (q + 15) h ∧ r4 (sJ S) (q + 18) h ∧ rTs I (sE S) q h
section Frs
variable {P : Nat → Prop} {h h' : PH} (f : Fr P h h')
theorem r9.fr {S : SA} {q : Nat} (r : r9 S q h) (f : Fr P h h') (hd : ¬ P q) : r9 S q h' := by
  obtain ⟨D, a, b⟩ := r
  exact ⟨D, a.fr f (fun x h1 h2 => by simp only [z9] at h2; have : x = q := (by omega); subst this; exact hd), b⟩
theorem r1.fr {I : IA} {H : HA} {p : Nat} (r : r1 I H p h) (f : Fr P h h') (hd : ∀ x, p ≤ x → x < p + 5 → ¬ P x) : r1 I H p h' := by
  obtain ⟨D, a, b⟩ := r
  exact ⟨D, a.fr f hd, b⟩
theorem rTr.fr {q : Nat} (r : rTr q h) (f : Fr P h h') (hd : ¬ P (q + 6)) : rTr q h' := by
  obtain ⟨g, a, b⟩ := r
  exact ⟨g, by rw [f _ hd]; exact a, b⟩
theorem r0.fr {H : HA} {p : Nat} (r : r0 H p h) (f : Fr P h h') (hd : ∀ x, p ≤ x → x < p + 2 → ¬ P x) : r0 H p h' := by
  obtain ⟨D, a, b⟩ := r
  exact ⟨D, a.fr f hd, b⟩
theorem r8.fr {l : List Tri} {p : Nat} (r : r8 l p h) (f : Fr P h h') (hd : ∀ x, p ≤ x → x < p + 6 → ¬ P x) : r8 l p h' := by
  obtain ⟨D, a, b⟩ := r
  exact ⟨D, a.fr f hd, b⟩
theorem r6.fr {l : Nat → Nat} {p : Nat} (r : r6 l p h) (f : Fr P h h') (hd : ∀ x, p ≤ x → x < p + 3 → ¬ P x) : r6 l p h' := by
  obtain ⟨D, a, b⟩ := r
  exact ⟨D, a.fr f hd, b⟩
theorem r4.fr {l : List Tri} {p : Nat} (r : r4 l p h) (f : Fr P h h') (hd : ∀ x, p ≤ x → x < p + 4 → ¬ P x) : r4 l p h' := by
  obtain ⟨D, a, b⟩ := r
  exact ⟨D, a.fr f hd, b⟩
theorem rTs.fr {I : IA} {es : List Ev} {q : Nat} (r : rTs I es q h) (f : Fr P h h') (hd : ∀ x, q + 22 ≤ x → x < q + 47 → ¬ P x) : rTs I es q h' := by
  intro i hi
  obtain ⟨D, a, b⟩ := r i hi
  exact ⟨D, a.fr f (fun x h1 h2 => hd x (by omega) (by simp only [z1] at h2; omega)), b⟩
theorem RSt.fr {I : IA} {S : SA} {q : Nat} (r : RSt I S q h) (f : Fr P h h') (hd : ∀ x, q ≤ x → x < q + 47 → ¬ P x) : RSt I S q h' := by
  obtain ⟨a1, a2, a3, a4, a5, a6, a7, a8⟩ := r
  exact ⟨a1.fr f (hd _ (by omega) (by omega)), a2.fr f (fun x h1 h2 => hd x (by omega) (by omega)), a3.fr f (hd _ (by omega) (by omega)), a4.fr f (fun x h1 h2 => hd x (by omega) (by omega)), a5.fr f (fun x h1 h2 => hd x (by omega) (by omega)), a6.fr f (fun x h1 h2 => hd x (by omega) (by omega)), a7.fr f (fun x h1 h2 => hd x (by omega) (by omega)), a8.fr f (fun x h1 h2 => hd x (by omega) (by omega))⟩
end Frs
def cu (b : Bool) : Nat := if b then 66 else 73
def c11 (A : AA) (b : Bool) (h : PH) : Prop := ∃ D, At sX11 0 D h ∧ (ov D 0 = .ref 1 ∧ ov D 1 = .ref 3 ∧ ov D 2 = .ref 4 ∧ ov D 3 = .ref 7 ∧ ov D 4 = .ref 54 ∧ ov D 5 = .ref 55 ∧ ov D 6 = .ref 59 ∧ ov D 7 = .ref 64 ∧ ov D 8 = .ref 65 ∧ ov D 9 = .ref (cu b) ∧ ov D 10 = .ref (cu (!b))) ∧ oi D 11 = Int32.ofNat (msk (fun m => (aM A m).isSome) 4)
def c10 (T : List Nat) (h : PH) : Prop := ∃ D, At sX10 1 D h ∧ oi D 1 = Int32.ofNat T.length ∧ ∀ (k c : Nat), T[k]? = some c → oa D 0 k = Int32.ofNat c
def c3 (h : PH) : Prop := ∃ D, At sX3 3 D h ∧ ov D 0 = .ref 1
def c7 (h : PH) : Prop := ∃ D, At sX7 4 D h
def cIn (I : IA) (p : Nat) (h : PH) : Prop := ∃ E, At sX2 p E h ∧ RepIC I E ∧ oa E 10 0 = 0
def cIa (p : Nat) (h : PH) : Prop := ∃ E, At sX2 p E h ∧ oa E 10 0 = 0
def cMk (A : AA) (mk : Nat → Option Nat) (h : PH) : Prop := h[54]? = some (.inl (5, 4, .inr (.inr (.inr (.inr mk))))) ∧ (∀ m, m < 4 → ∀ q, mk m = some q → 106 ≤ q ∧ ∃ I S, RSt I S q h) ∧ (∀ m, m < 4 → ∀ S, aM A m = some S → ∃ q, mk m = some q ∧ RSt (aI A) S q h) ∧ ∀ m m', m < 4 → m' < 4 → m ≠ m' → ∀ q q', mk m = some q → mk m' = some q' → q + 47 ≤ q' ∨ q' + 47 ≤ q
def c5 (h : PH) : Prop := ∃ D, At sX5 55 D h
def c1 (h : PH) : Prop := ∃ D, At sX1 59 D h
def cT (h : PH) : Prop := ∃ f, Ar 0 7 64 f h
def cW (h : PH) : Prop := ∃ f, Ar 0 1024 65 f h
/-- what the component holds, of which A is told -/
def RC (A : AA) (b : Bool) (mk : Nat → Option Nat) (h : PH) : Prop := c11 A b h ∧ c10 (aT A) h ∧ c3 h ∧ c7 h ∧ cIn (aI A) (cu b) h ∧ cIa (cu (!b)) h ∧ RSt (aI A) (aS A) 7 h ∧ cMk A mk h ∧ c5 h ∧ c1 h ∧ cT h ∧ cW h ∧ 106 ≤ h.length
def RepC (A : AA) (h : PH) : Prop := ∃ b mk, RC A b mk h
section Frs2
variable {P : Nat → Prop} {h h' : PH}
theorem c11.fr {A : AA} {b : Bool} (r : c11 A b h) (f : Fr P h h') (hd : ¬ P 0) : c11 A b h' := by
  obtain ⟨D, a, b⟩ := r
  exact ⟨D, a.fr f (fun x h1 h2 => by simp only [z11] at h2; have : x = 0 := (by omega); subst this; exact hd), b⟩
theorem c10.fr {T : List Nat} (r : c10 T h) (f : Fr P h h') (hd : ∀ x, 1 ≤ x → x < 3 → ¬ P x) : c10 T h' := by
  obtain ⟨D, a, b⟩ := r
  exact ⟨D, a.fr f hd, b⟩
theorem c3.fr (r : c3 h) (f : Fr P h h') (hd : ¬ P 3) : c3 h' := by
  obtain ⟨D, a, b⟩ := r
  exact ⟨D, a.fr f (fun x h1 h2 => by simp only [z3] at h2; have : x = 3 := (by omega); subst this; exact hd), b⟩
theorem c7.fr (r : c7 h) (f : Fr P h h') (hd : ∀ x, 4 ≤ x → x < 7 → ¬ P x) : c7 h' := by
  obtain ⟨D, a⟩ := r
  exact ⟨D, a.fr f hd⟩
theorem cIn.fr {I : IA} {p : Nat} (r : cIn I p h) (f : Fr P h h') (hd : ∀ x, p ≤ x → x < p + 7 → ¬ P x) : cIn I p h' := by
  obtain ⟨D, a, b⟩ := r
  exact ⟨D, a.fr f hd, b⟩
theorem cIa.fr {p : Nat} (r : cIa p h) (f : Fr P h h') (hd : ∀ x, p ≤ x → x < p + 7 → ¬ P x) : cIa p h' := by
  obtain ⟨D, a, b⟩ := r
  exact ⟨D, a.fr f hd, b⟩
theorem c5.fr (r : c5 h) (f : Fr P h h') (hd : ∀ x, 55 ≤ x → x < 59 → ¬ P x) : c5 h' := by
  obtain ⟨D, a⟩ := r
  exact ⟨D, a.fr f hd⟩
theorem c1.fr (r : c1 h) (f : Fr P h h') (hd : ∀ x, 59 ≤ x → x < 64 → ¬ P x) : c1 h' := by
  obtain ⟨D, a⟩ := r
  exact ⟨D, a.fr f hd⟩
theorem cT.fr (r : cT h) (f : Fr P h h') (hd : ¬ P 64) : cT h' := by
  obtain ⟨D, a⟩ := r
  exact ⟨D, a.fr f hd⟩
theorem cW.fr (r : cW h) (f : Fr P h h') (hd : ¬ P 65) : cW h' := by
  obtain ⟨D, a⟩ := r
  exact ⟨D, a.fr f hd⟩
theorem cMk.fr {A : AA} {mk : Nat → Option Nat} (r : cMk A mk h) (f : Fr P h h') (hd : ∀ x, (x = 54 ∨ 106 ≤ x) → ¬ P x) : cMk A mk h' := by
  obtain ⟨a1, a2, a3, a4⟩ := r
  refine ⟨by rw [f 54 (hd _ (Or.inl rfl))]; exact a1, ?_, ?_, a4⟩
  · intro m hm q hq
    obtain ⟨b1, I, S, b2⟩ := a2 m hm q hq
    exact ⟨b1, I, S, b2.fr f (fun x h1 _ => hd x (by omega))⟩
  · intro m hm S hS
    obtain ⟨q, b1, b2⟩ := a3 m hm S hS
    have := (a2 m hm q b1).1
    exact ⟨q, b1, b2.fr f (fun x h1 _ => hd x (by omega))⟩
end Frs2
theorem cu_lt (b : Bool) : 66 ≤ cu b ∧ cu b + 7 ≤ 80 ∧ (cu b + 7 ≤ cu (!b) ∨ cu (!b) + 7 ≤ cu b) := by cases b <;> decide
theorem Fr.len {P : Nat → Prop} {h h' : PH} (f : Fr P h h') {n : Nat} (hn : n < h.length) (hp : ¬ P n) : n < h'.length := by
  have := f n hp
  rw [List.getElem?_eq_getElem hn] at this
  rcases Nat.lt_or_ge n h'.length with q | q
  · exact q
  · rw [List.getElem?_eq_none q] at this; cases this
/-- the state has changed, and the rules' machine -/
theorem RC.st {A : AA} {b : Bool} {mk : Nat → Option Nat} {h h' : PH} (r : RC A b mk h) {S : SA} (f : Fr (fun x => 4 ≤ x ∧ x < 54) h h') (g7 : c7 h') (gS : RSt (aI A) S 7 h') : RC (setS A S) b mk h' := by
  obtain ⟨a1, a2, a3, a4, a5, a6, a7, a8, a9, a10, a11, a12, a13⟩ := r
  have := cu_lt b
  have := cu_lt (!b)
  refine ⟨a1.fr f (by omega), a2.fr f (fun x _ _ => by omega), a3.fr f (by omega), g7, a5.fr f (fun x _ _ => by omega), a6.fr f (fun x _ _ => by omega), gS, a8.fr f (fun x _ => by omega), a9.fr f (fun x _ _ => by omega), a10.fr f (fun x _ _ => by omega), a11.fr f (by omega), a12.fr f (by omega), ?_⟩
  have := f.len (n := 105) (by omega) (by omega)
  omega
theorem RC.st7 {A : AA} {b : Bool} {mk : Nat → Option Nat} {h h' : PH} (r : RC A b mk h) {S : SA} (f : Fr (fun x => 7 ≤ x ∧ x < 54) h h') (gS : RSt (aI A) S 7 h') : RC (setS A S) b mk h' := r.st (f.up (fun x hx => by omega)) (r.2.2.2.1.fr f (fun x _ _ => by omega)) gS
theorem setS_self (A : AA) : setS A (aS A) = A := rfl
/-- what is only for use within a call has changed -/
theorem RC.sc {A : AA} {b : Bool} {mk : Nat → Option Nat} {h h' : PH} (r : RC A b mk h) (f : Fr (fun x => (55 ≤ x ∧ x < 66) ∨ (4 ≤ x ∧ x < 7)) h h') (g7 : c7 h') (g5 : c5 h') (g1 : c1 h') (gT : cT h') (gW : cW h') : RC A b mk h' := by
  obtain ⟨a1, a2, a3, a4, a5, a6, a7, a8, a9, a10, a11, a12, a13⟩ := r
  have := cu_lt b
  have := cu_lt (!b)
  refine ⟨a1.fr f (by omega), a2.fr f (fun x _ _ => by omega), a3.fr f (by omega), g7, a5.fr f (fun x _ _ => by omega), a6.fr f (fun x _ _ => by omega), a7.fr f (fun x _ _ => by omega), a8.fr f (fun x _ => by omega), g5, g1, gT, gW, ?_⟩
  have := f.len (n := 105) (by omega) (by omega)
  omega
/-- the cells of the model, and of the law -/
def Md (x : Nat) : Prop := 80 ≤ x ∧ x < 106
/-- a call that answers v and leads from A to A' -/
def CAns (A A' : AA) (F : PH → Option (Int32 × PH)) (v : Int32) : Prop := ∀ h, RepC A h → ∃ h', F h = some (v, h') ∧ RepC A' h' ∧ Fr (fun x => ¬ Md x) h h'
def CAnsL (A A' : AA) (F : PH → Option (Int64 × PH)) (v : Int64) : Prop := ∀ h, RepC A h → ∃ h', F h = some (v, h') ∧ RepC A' h' ∧ Fr (fun x => ¬ Md x) h h'
theorem CAns.ro {A : AA} {F : PH → Option (Int32 × PH)} {v : Int32} (q : ∀ h, RepC A h → F h = some (v, h)) : CAns A A F v := fun h r => ⟨h, q h r, r, Fr.rf⟩

