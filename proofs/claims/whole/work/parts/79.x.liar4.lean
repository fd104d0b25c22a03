/-! Liars: chains of sightings -/
def tg (l : List Tri) (i : Nat) : Tri := l.getD i (0, 0, 0)
theorem tg_at {l : List Tri} {i : Nat} (h : i < l.length) : l[i]? = some (tg l i) := by
  unfold tg
  rw [List.getD_eq_getElem?_getD, List.getElem?_eq_getElem h]
  rfl
def lnk (I : IA) (l : List Tri) (i j : Nat) : Bool := decide ((tg l j).1 = (tg l i).1) && decide (wkD I (tg l j).2.1 (tg l i).2.1 ≤ nd (tg l j).2.2 (tg l i).2.2)
def mxc (I : IA) (l : List Tri) (c : Nat → Nat) (i : Nat) : Nat → Nat
  | 0 => 0
  | k + 1 => if lnk I l i k = true then (if mxc I l c i k ≤ c k then c k else mxc I l c i k) else mxc I l c i k
def lgm (l : List Tri) (c : Nat → Nat) (g : Nat) : Nat → Nat
  | 0 => 0
  | k + 1 => if (tg l k).1 = g then (if lgm l c g k ≤ c k then c k else lgm l c g k) else lgm l c g k
def gsum (f : Nat → Nat) : Nat → Nat
  | 0 => 0
  | n + 1 => gsum f n + f n
def cntQ (P : Nat → Bool) : Nat → Nat
  | 0 => 0
  | n + 1 => cntQ P n + (if P n = true then 1 else 0)
theorem gsum_add (f g : Nat → Nat) : ∀ n, gsum (fun k => f k + g k) n = gsum f n + gsum g n := by
  intro n
  induction n with
  | zero => rfl
  | succ n ih =>
    show gsum (fun k => f k + g k) n + (f n + g n) = gsum f n + f n + (gsum g n + g n)
    rw [ih]
    omega
theorem gsum_0 {f : Nat → Nat} : ∀ n, (∀ k, k < n → f k = 0) → gsum f n = 0 := by
  intro n
  induction n with
  | zero => intro _; rfl
  | succ n ih =>
    intro h
    show gsum f n + f n = 0
    rw [ih (fun k hk => h k (by omega)), h n (by omega)]
theorem gsum_1 {f : Nat → Nat} {a : Nat} (h : ∀ k, k ≠ a → f k = 0) : ∀ n, a < n → gsum f n = f a := by
  intro n
  induction n with
  | zero => intro q; omega
  | succ n ih =>
    intro q
    show gsum f n + f n = f a
    by_cases z : a = n
    · subst z
      rw [gsum_0 a (fun k hk => h k (by omega))]
      omega
    · rw [ih (by omega), h n (fun w => z w.symm)]
      rfl
theorem gsum_le {f g : Nat → Nat} : ∀ n, (∀ k, k < n → f k ≤ g k) → gsum f n ≤ gsum g n := by
  intro n
  induction n with
  | zero => intro _; exact Nat.le_refl _
  | succ n ih =>
    intro h
    have h1 := ih (fun k hk => h k (by omega))
    have h2 := h n (by omega)
    show gsum f n + f n ≤ gsum g n + g n
    omega
theorem gsum_ext {f g : Nat → Nat} : ∀ n, (∀ k, k < n → f k = g k) → gsum f n = gsum g n := by
  intro n
  induction n with
  | zero => intro _; rfl
  | succ n ih =>
    intro h
    show gsum f n + f n = gsum g n + g n
    rw [ih (fun k hk => h k (by omega)), h n (by omega)]
theorem gsum_fu {f : Nat → Nat} {a v : Nat} : ∀ n, a < n → gsum (fu f a v) n + f a = gsum f n + v := by
  intro n
  induction n with
  | zero => intro q; omega
  | succ n ih =>
    intro q
    show gsum (fu f a v) n + fu f a v n + f a = gsum f n + f n + v
    by_cases z : n = a
    · subst z
      rw [fu_eq rfl, gsum_ext (f := fu f n v) (g := f) n (fun k hk => fu_ne (by omega))]
      omega
    · rw [fu_ne z]
      have := ih (by omega)
      omega
section Chains
variable {I : IA} {l : List Tri} {c : Nat → Nat}
theorem mxc_ge {i j : Nat} (h : lnk I l i j = true) : ∀ k, j < k → c j ≤ mxc I l c i k := by
  intro k
  induction k with
  | zero => intro q; omega
  | succ k ih =>
    intro q
    unfold mxc
    by_cases z : j = k
    · subst z
      rw [if_pos h]
      split <;> omega
    · have := ih (by omega)
      split
      · split <;> omega
      · exact this
theorem mxc_ex {i : Nat} : ∀ k, 0 < mxc I l c i k → ∃ j, j < k ∧ lnk I l i j = true ∧ c j = mxc I l c i k := by
  intro k
  induction k with
  | zero => intro q; exact absurd q (Nat.lt_irrefl _)
  | succ k ih =>
    intro q
    unfold mxc at q ⊢
    by_cases z : lnk I l i k = true
    · rw [if_pos z] at q ⊢
      by_cases w : mxc I l c i k ≤ c k
      · rw [if_pos w]
        exact ⟨k, by omega, z, rfl⟩
      · rw [if_neg w] at q ⊢
        obtain ⟨j, a1, a2, a3⟩ := ih q
        exact ⟨j, by omega, a2, a3⟩
    · rw [if_neg z] at q ⊢
      obtain ⟨j, a1, a2, a3⟩ := ih q
      exact ⟨j, by omega, a2, a3⟩
theorem lgm_ge {g j : Nat} (h : (tg l j).1 = g) : ∀ k, j < k → c j ≤ lgm l c g k := by
  intro k
  induction k with
  | zero => intro q; omega
  | succ k ih =>
    intro q
    unfold lgm
    by_cases z : j = k
    · subst z
      rw [if_pos h]
      split <;> omega
    · have := ih (by omega)
      split
      · split <;> omega
      · exact this
theorem lgm_ex {g : Nat} : ∀ k, 0 < lgm l c g k → ∃ j, j < k ∧ (tg l j).1 = g ∧ c j = lgm l c g k := by
  intro k
  induction k with
  | zero => intro q; exact absurd q (Nat.lt_irrefl _)
  | succ k ih =>
    intro q
    unfold lgm at q ⊢
    by_cases z : (tg l k).1 = g
    · rw [if_pos z] at q ⊢
      by_cases w : lgm l c g k ≤ c k
      · rw [if_pos w]
        exact ⟨k, by omega, z, rfl⟩
      · rw [if_neg w] at q ⊢
        obtain ⟨j, a1, a2, a3⟩ := ih q
        exact ⟨j, by omega, a2, a3⟩
    · rw [if_neg z] at q ⊢
      obtain ⟨j, a1, a2, a3⟩ := ih q
      exact ⟨j, by omega, a2, a3⟩
/-- how many of a list are this guest's -/
def cG : List Tri → Nat → Nat
  | [], _ => 0
  | x :: F, g => cG F g + (if g = x.1 then 1 else 0)
theorem cG_s (x : Tri) (F : List Tri) : gsum (cG (x :: F)) 10 = gsum (cG F) 10 + (if x.1 < 10 then 1 else 0) := by
  have e : cG (x :: F) = fun g => cG F g + (fun g => if g = x.1 then 1 else 0) g := rfl
  rw [e, gsum_add]
  congr 1
  by_cases z : x.1 < 10
  · rw [if_pos z, gsum_1 (a := x.1) (fun k hk => if_neg hk) 10 z, if_pos rfl]
  · rw [if_neg z]
    exact gsum_0 10 (fun k hk => if_neg (by omega))
theorem okF_m {F : List Tri} {y : Tri} (h : okF I F y = true) {x : Tri} (hx : x ∈ F) : unlS I x y = false := by
  unfold okF at h
  have := List.all_eq_true.mp h x hx
  simpa using this
theorem mx_up (hc : ∀ i, i < l.length → c i = 1 + mxc I l c i i) (hg : ∀ i, i < l.length → (tg l i).1 < 10) : ∀ d k F, k + d = l.length → (∀ g, cG F g = 0 ∨ ∃ j, j < k ∧ tg l j ∈ F ∧ (tg l j).1 = g ∧ cG F g ≤ c j) → F.length = gsum (cG F) 10 → F.length + mx I F (l.drop k) ≤ gsum (fun g => lgm l c g l.length) 10 := by
  intro d
  induction d with
  | zero =>
    intro k F hk h1 h2
    rw [List.drop_of_length_le (by omega), h2]
    show _ + 0 ≤ _
    rw [Nat.add_zero]
    refine gsum_le 10 (fun g _ => ?_)
    rcases h1 g with z | ⟨j, a1, a2, a3, a4⟩
    · rw [z]; exact Nat.zero_le _
    · exact Nat.le_trans a4 (lgm_ge a3 _ (by omega))
  | succ d ih =>
    intro k F hk h1 h2
    have hl : k < l.length := by omega
    have ed : l.drop k = tg l k :: l.drop (k + 1) := by
      have e1 := tg_at hl
      rw [List.getElem?_eq_getElem hl] at e1
      rw [List.drop_eq_getElem_cons hl, Option.some.inj e1]
    have i1 := ih (k + 1) F (by omega) (fun g => by
      rcases h1 g with z | ⟨j, a1, a2, a3, a4⟩
      · exact Or.inl z
      · exact Or.inr ⟨j, by omega, a2, a3, a4⟩) h2
    rw [ed]
    unfold mx
    by_cases z : okF I F (tg l k) = true
    · rw [if_pos z]
      have i2 := ih (k + 1) (tg l k :: F) (by omega) (fun g => by
        show cG F g + (if g = (tg l k).1 then 1 else 0) = 0 ∨ ∃ j, j < k + 1 ∧ tg l j ∈ tg l k :: F ∧ (tg l j).1 = g ∧ cG F g + (if g = (tg l k).1 then 1 else 0) ≤ c j
        by_cases w : g = (tg l k).1
        · rw [if_pos w]
          refine Or.inr ⟨k, by omega, List.mem_cons_self .., w.symm, ?_⟩
          rw [hc k hl]
          rcases h1 g with u | ⟨j, a1, a2, a3, a4⟩
          · omega
          · have f := okF_m z a2
            have lk : lnk I l k j = true := by
              unfold unlS at f
              unfold lnk
              have e : (tg l j).1 = (tg l k).1 := by rw [a3, w]
              rw [decide_eq_true e, Bool.true_and] at f ⊢
              have := of_decide_eq_false f
              exact decide_eq_true (by omega)
            have := mxc_ge (c := c) lk k a1
            omega
        · rw [if_neg w, Nat.add_zero]
          rcases h1 g with u | ⟨j, a1, a2, a3, a4⟩
          · exact Or.inl u
          · exact Or.inr ⟨j, by omega, List.mem_cons_of_mem _ a2, a3, a4⟩) (by
        rw [cG_s, if_pos (hg k hl), List.length_cons, h2])
      rw [List.length_cons] at i2
      have : Nat.max (1 + mx I (tg l k :: F) (l.drop (k + 1))) (mx I F (l.drop (k + 1))) ≤ gsum (fun g => lgm l c g l.length) 10 - F.length := Nat.max_le.mpr ⟨by omega, by omega⟩
      omega
    · rw [if_neg z]
      exact i1
theorem okF_fL {P : Nat → Bool} {y : Tri} : ∀ k, k ≤ l.length → (∀ i, i < k → P i = true → unlS I (tg l i) y = false) → okF I (fL l P k) y = true := by
  intro k
  induction k with
  | zero => intro _ _; rfl
  | succ k ih =>
    intro hk h
    have i1 := ih (by omega) (fun i hi => h i (by omega))
    unfold fL
    rw [tg_at (show k < l.length by omega)]
    by_cases z : P k = true
    · show okF I (if P k = true then tg l k :: fL l P k else fL l P k) y = true
      rw [if_pos z, okF_c, i1, h k (by omega) z]
      rfl
    · show okF I (if P k = true then tg l k :: fL l P k else fL l P k) y = true
      rw [if_neg z]
      exact i1
theorem mx_dn {P : Nat → Bool} (hp : ∀ i j, i < j → j < l.length → P i = true → P j = true → unlS I (tg l i) (tg l j) = false) : ∀ d k, k + d = l.length → cntQ P l.length ≤ cntQ P k + mx I (fL l P k) (l.drop k) := by
  intro d
  induction d with
  | zero =>
    intro k hk
    have : k = l.length := by omega
    rw [this]
    omega
  | succ d ih =>
    intro k hk
    have hl : k < l.length := by omega
    have ed : l.drop k = tg l k :: l.drop (k + 1) := by
      have e1 := tg_at hl
      rw [List.getElem?_eq_getElem hl] at e1
      rw [List.drop_eq_getElem_cons hl, Option.some.inj e1]
    have i1 := ih (k + 1) (by omega)
    have ec : cntQ P (k + 1) = cntQ P k + (if P k = true then 1 else 0) := rfl
    have ef : fL l P (k + 1) = if P k = true then tg l k :: fL l P k else fL l P k := by
      show (match l[k]? with
        | some x => if P k then x :: fL l P k else fL l P k
        | none => fL l P k) = _
      rw [tg_at hl]
    rw [ec, ef] at i1
    rw [ed]
    unfold mx
    by_cases z : P k = true
    · rw [if_pos z] at i1
      rw [if_pos z] at i1
      rw [if_pos (okF_fL k (by omega) (fun i hi h => hp i k hi hl h z))]
      have : 1 + mx I (tg l k :: fL l P k) (l.drop (k + 1)) ≤ Nat.max (1 + mx I (tg l k :: fL l P k) (l.drop (k + 1))) (mx I (fL l P k) (l.drop (k + 1))) := Nat.le_max_left _ _
      omega
    · rw [if_neg z] at i1
      rw [if_neg z] at i1
      split
      · have : mx I (fL l P k) (l.drop (k + 1)) ≤ Nat.max (1 + mx I (tg l k :: fL l P k) (l.drop (k + 1))) (mx I (fL l P k) (l.drop (k + 1))) := Nat.le_max_right _ _
        omega
      · omega
theorem nd_tri (a b d : Nat) : nd a d ≤ nd a b + nd b d := by unfold nd; omega
theorem unl_tri {x y z : Tri} (h1 : x.1 = y.1) (h2 : y.1 = z.1) (h3 : x.2.2 ≤ y.2.2) (h4 : y.2.2 ≤ z.2.2) (h5 : unlS I x y = false) (h6 : unlS I y z = false) : unlS I x z = false := by
  unfold unlS at *
  rw [decide_eq_true h1, Bool.true_and] at h5
  rw [decide_eq_true h2, Bool.true_and] at h6
  have h5 := of_decide_eq_false h5
  have h6 := of_decide_eq_false h6
  rw [decide_eq_true (h1.trans h2), Bool.true_and]
  refine decide_eq_false ?_
  have t1 := nd_tri x.2.1 y.2.1 z.2.1
  have t2 : flD I (some x.2.1) (some z.2.1) ≤ flD I (some x.2.1) (some y.2.1) + flD I (some y.2.1) (some z.2.1) := nd_tri _ _ _
  have e1 : nd x.2.2 y.2.2 = y.2.2 - x.2.2 := by unfold nd; omega
  have e2 : nd y.2.2 z.2.2 = z.2.2 - y.2.2 := by unfold nd; omega
  have e3 : nd x.2.2 z.2.2 = z.2.2 - x.2.2 := by unfold nd; omega
  unfold wkD at *
  omega
theorem cnt_fu {Q : Nat → Bool} {a : Nat} (h : Q a = false) : ∀ n, a < n → cntQ (fu Q a true) n = cntQ Q n + 1 := by
  have aux : ∀ n, n ≤ a → cntQ (fu Q a true) n = cntQ Q n := by
    intro n
    induction n with
    | zero => intro _; rfl
    | succ n ih =>
      intro q
      show cntQ (fu Q a true) n + (if fu Q a true n = true then 1 else 0) = cntQ Q n + (if Q n = true then 1 else 0)
      rw [ih (by omega), fu_ne (by omega)]
  intro n
  induction n with
  | zero => intro q; omega
  | succ n ih =>
    intro q
    show cntQ (fu Q a true) n + (if fu Q a true n = true then 1 else 0) = cntQ Q n + (if Q n = true then 1 else 0) + 1
    by_cases z : n = a
    · subst z
      rw [aux n (Nat.le_refl _), fu_eq rfl, h]
      simp
    · rw [ih (by omega), fu_ne z]
      omega
theorem cnt_0 : ∀ n, cntQ (fun _ => false) n = 0 := by
  intro n
  induction n with
  | zero => rfl
  | succ n ih =>
    show cntQ (fun _ => false) n + 0 = 0
    rw [ih]
theorem chain_ex (hs : SrtT l) (hc : ∀ i, i < l.length → c i = 1 + mxc I l c i i) : ∀ i, i < l.length → ∃ Q : Nat → Bool, cntQ Q l.length = c i ∧ (∀ j, Q j = true → j ≤ i ∧ (tg l j).1 = (tg l i).1) ∧ Q i = true ∧ ∀ j j', j < j' → Q j = true → Q j' = true → unlS I (tg l j) (tg l j') = false := by
  intro i
  induction i using Nat.strongRecOn with
  | ind i ih =>
    intro hi
    have ci := hc i hi
    by_cases z : 0 < mxc I l c i i
    · obtain ⟨j, a1, a2, a3⟩ := mxc_ex i z
      obtain ⟨Q, b1, b2, b3, b4⟩ := ih j a1 (by omega)
      have a2' := a2
      unfold lnk at a2'
      rw [Bool.and_eq_true] at a2'
      have g1 := of_decide_eq_true a2'.1
      have w1 := of_decide_eq_true a2'.2
      have uj : unlS I (tg l j) (tg l i) = false := by
        unfold unlS
        rw [decide_eq_false (show ¬ nd (tg l j).2.2 (tg l i).2.2 < wkD I (tg l j).2.1 (tg l i).2.1 by omega), Bool.and_false]
      have qi : Q i = false := by
        cases w : Q i with
        | false => rfl
        | true => have := (b2 i w).1; omega
      refine ⟨fu Q i true, ?_, ?_, fu_eq rfl, ?_⟩
      · rw [cnt_fu qi _ hi, b1]
        omega
      · intro k hk
        by_cases u : k = i
        · rw [u]; exact ⟨Nat.le_refl _, rfl⟩
        · rw [fu_ne u] at hk
          have := b2 k hk
          exact ⟨by omega, this.2.trans g1⟩
      · intro k k' hkk hk hk'
        by_cases u : k' = i
        · have u2 : k ≠ i := by omega
          rw [fu_ne u2] at hk
          have bk := b2 k hk
          rw [u]
          by_cases v : k = j
          · rw [v]; exact uj
          · have kj : k < j := by omega
            exact unl_tri bk.2 g1 (hs k j _ _ kj (tg_at (by omega)) (tg_at (by omega))) (hs j i _ _ a1 (tg_at (by omega)) (tg_at hi)) (b4 k j kj hk b3) uj
        · rw [fu_ne u] at hk'
          have := b2 k' hk'
          have u2 : k ≠ i := by omega
          rw [fu_ne u2] at hk
          exact b4 k k' hkk hk hk'
    · refine ⟨fu (fun _ => false) i true, ?_, ?_, fu_eq rfl, ?_⟩
      · rw [cnt_fu rfl _ hi, cnt_0]
        omega
      · intro k hk
        by_cases u : k = i
        · rw [u]; exact ⟨Nat.le_refl _, rfl⟩
        · rw [fu_ne u] at hk
          cases hk
      · intro k k' hkk hk hk'
        by_cases u : k' = i
        · have u2 : k ≠ i := by omega
          rw [fu_ne u2] at hk
          cases hk
        · rw [fu_ne u] at hk'
          cases hk'
theorem mx_chain (hs : SrtT l) (hc : ∀ i, i < l.length → c i = 1 + mxc I l c i i) (hg : ∀ i, i < l.length → (tg l i).1 < 10) : mx I [] l = gsum (fun g => lgm l c g l.length) 10 := by
  refine Nat.le_antisymm ?_ ?_
  · have := mx_up hc hg l.length 0 [] (by omega) (fun g => Or.inl rfl) (gsum_0 (f := cG []) 10 (fun k _ => rfl)).symm
    rw [List.drop_zero] at this
    simpa using this
  · have ex : ∀ g, ∃ Q : Nat → Bool, cntQ Q l.length = lgm l c g l.length ∧ (∀ j, Q j = true → (tg l j).1 = g) ∧ ∀ j j', j < j' → Q j = true → Q j' = true → unlS I (tg l j) (tg l j') = false := by
      intro g
      by_cases z : 0 < lgm l c g l.length
      · obtain ⟨i, a1, a2, a3⟩ := lgm_ex l.length z
        obtain ⟨Q, b1, b2, b3, b4⟩ := chain_ex hs hc i a1
        exact ⟨Q, b1.trans a3, fun j hj => (b2 j hj).2.trans a2, b4⟩
      · refine ⟨fun _ => false, ?_, ?_, ?_⟩
        · rw [cnt_0]; omega
        · intro j hj; cases hj
        · intro j j' _ hj _; cases hj
    obtain ⟨Q, hQ⟩ := Classical.skolem.mp ex
    have pw : ∀ i j, i < j → j < l.length → Q (tg l i).1 i = true → Q (tg l j).1 j = true → unlS I (tg l i) (tg l j) = false := by
      intro i j hij hj h1 h2
      by_cases z : (tg l i).1 = (tg l j).1
      · rw [z] at h1
        exact (hQ _).2.2 i j hij h1 h2
      · unfold unlS
        rw [decide_eq_false z, Bool.false_and]
    have dn := mx_dn (I := I) (l := l) (P := fun i => Q (tg l i).1 i) pw l.length 0 (by omega)
    have cn : ∀ k, k ≤ l.length → cntQ (fun i => Q (tg l i).1 i) k = gsum (fun g => cntQ (Q g) k) 10 := by
      intro k
      induction k with
      | zero => intro _; exact (gsum_0 10 (fun k _ => rfl)).symm
      | succ k ih =>
        intro hk
        have e : (fun g => cntQ (Q g) (k + 1)) = fun g => cntQ (Q g) k + (fun g => if Q g k = true then 1 else 0) g := rfl
        rw [e, gsum_add, ← ih (by omega), gsum_1 (a := (tg l k).1) (fun g hgg => by
          rw [if_neg]
          intro w
          exact hgg ((hQ g).2.1 k w).symm) 10 (hg k (by omega))]
        rfl
    rw [cn _ (Nat.le_refl _), List.drop_zero] at dn
    have e0 : gsum (fun g => cntQ (Q g) l.length) 10 = gsum (fun g => lgm l c g l.length) 10 := gsum_ext 10 (fun g _ => (hQ g).1)
    rw [e0] at dn
    show _ ≤ mx I [] l
    have : fL l (fun i => Q (tg l i).1 i) 0 = [] := rfl
    rw [this] at dn
    have z0' : cntQ (fun i => Q (tg l i).1 i) 0 = 0 := rfl
    rw [z0'] at dn
    omega
end Chains

