/-! Liars: the search finds them -/
def fL (l : List Tri) (fine : Nat → Bool) : Nat → List Tri
  | 0 => []
  | e + 1 => match l[e]? with
    | some x => if fine e then x :: fL l fine e else fL l fine e
    | none => fL l fine e
theorem may_ok (I : IA) (l : List Tri) (fine : Nat → Bool) (y : Tri) : ∀ k, mayS I l fine y k = okF I (fL l fine k) y := by
  intro k
  induction k with
  | zero => rfl
  | succ k ih =>
    unfold mayS fL
    rw [ih]
    cases hx : l[k]? with
    | none => simp
    | some x =>
      cases hf : fine k with
      | false => simp
      | true =>
        simp only [Bool.not_true, Bool.false_or, if_true]
        rw [okF_c, Bool.and_comm]
theorem fL_ext (l : List Tri) {f g : Nat → Bool} : ∀ k, (∀ e, e < k → f e = g e) → fL l f k = fL l g k := by
  intro k
  induction k with
  | zero => intro _; rfl
  | succ k ih =>
    intro h
    unfold fL
    rw [ih (fun e he => h e (by omega)), h k (by omega)]
theorem try_mx (I : IA) (l : List Tri) : ∀ n k fine liars best, k + n = l.length → (∀ e, k ≤ e → fine e = false) → tryL I l n k fine liars best = min best (liars + (n - mx I (fL l fine k) (l.drop k))) := by
  intro n
  induction n with
  | zero =>
    intro k fine liars best hk hf
    rw [List.drop_of_length_le (by omega)]
    show (if best ≤ liars then best else liars) = min best (liars + (0 - 0))
    rw [Nat.min_def]
    split <;> split <;> omega
  | succ n ih =>
    intro k fine liars best hk hf
    have hl : k < l.length := by omega
    have hx : l[k]? = some l[k] := List.getElem?_eq_getElem hl
    have ed : l.drop k = l[k] :: l.drop (k + 1) := List.drop_eq_getElem_cons hl
    have m1 := mx_le I (l.drop (k + 1)) (fL l fine k)
    have m2 := mx_le I (l.drop (k + 1)) (l[k] :: fL l fine k)
    rw [List.length_drop] at m1 m2
    have f0 : ∀ f : Nat → Bool, fL l f (k + 1) = if f k then l[k] :: fL l f k else fL l f k := by
      intro f
      show (match l[k]? with
        | some x => if f k then x :: fL l f k else fL l f k
        | none => fL l f k) = _
      rw [hx]
    have f1 : fL l fine (k + 1) = fL l fine k := by
      rw [f0, hf k (Nat.le_refl _)]
      rfl
    have f2 : fL l (fu fine k true) (k + 1) = l[k] :: fL l fine k := by
      rw [f0, fu_at, if_pos rfl, if_pos rfl, fL_ext l (f := fu fine k true) (g := fine) k (fun e he => fu_ne (by omega))]
    have i1 := ih (k + 1) (fu fine k true) liars best (by omega) (fun e he => by rw [fu_at, if_neg (by omega)]; exact hf e (by omega))
    rw [f2] at i1
    have i2 := fun bb => ih (k + 1) fine (liars + 1) bb (by omega) (fun e he => hf e (by omega))
    rw [f1] at i2
    have em : mx I (fL l fine k) (l.drop k) = if okF I (fL l fine k) l[k] then Nat.max (1 + mx I (l[k] :: fL l fine k) (l.drop (k + 1))) (mx I (fL l fine k) (l.drop (k + 1))) else mx I (fL l fine k) (l.drop (k + 1)) := by
      rw [ed]
      rfl
    have et : tryL I l (n + 1) k fine liars best = if best ≤ liars then best else tryL I l n (k + 1) fine (liars + 1) (if mayS I l fine l[k] k then tryL I l n (k + 1) (fu fine k true) liars best else best) := by
      show (if best ≤ liars then best else match l[k]? with
        | some y => tryL I l n (k + 1) fine (liars + 1) (if mayS I l fine y k then tryL I l n (k + 1) (fu fine k true) liars best else best)
        | none => best) = _
      rw [hx]
    rw [et, em, may_ok, i1, i2]
    generalize mx I (fL l fine k) (l.drop (k + 1)) = a at m1
    generalize mx I (l[k] :: fL l fine k) (l.drop (k + 1)) = b at m2
    have mxd : Nat.max (1 + b) a = if 1 + b ≤ a then a else 1 + b := Nat.max_def
    rw [mxd]
    cases okF I (fL l fine k) l[k] with
    | true =>
      simp only [if_true, Nat.min_def]
      (repeat' split) <;> omega
    | false =>
      simp only [Bool.false_eq_true, if_false, Nat.min_def]
      (repeat' split) <;> omega
theorem liar_mx {A : AA} (hA' : AOk A) : liarS A = (sS (aS A)).length - mx (aI A) [] (sS (aS A)) := by
  have h20 := hA'.2.1.2.2.2.1
  unfold liarS
  rw [try_mx _ _ _ _ _ _ _ (by omega) (fun _ _ => rfl)]
  show min 100000000 (0 + ((sS (aS A)).length - mx (aI A) [] (sS (aS A)))) = _
  rw [Nat.min_def]
  split <;> omega

