/-! Liars: the most sightings that fit together -/
def okF (I : IA) (F : List Tri) (y : Tri) : Bool := F.all (fun x => !unlS I x y)
/-- the most of r that fit with each other and with F -/
def mx (I : IA) : List Tri → List Tri → Nat
  | _, [] => 0
  | F, y :: r => if okF I F y then Nat.max (1 + mx I (y :: F) r) (mx I F r) else mx I F r
theorem mx_le (I : IA) : ∀ (r F : List Tri), mx I F r ≤ r.length := by
  intro r
  induction r with
  | nil => intro F; exact Nat.le_refl _
  | cons y r ih =>
    intro F
    unfold mx
    have h1 := ih F
    have h2 := ih (y :: F)
    rw [List.length_cons]
    split
    · exact Nat.max_le.mpr ⟨by omega, by omega⟩
    · omega
theorem unl_sy (I : IA) (x y : Tri) : unlS I x y = unlS I y x := by
  unfold unlS
  have e1 : decide (x.1 = y.1) = decide (y.1 = x.1) := decide_eq_decide.mpr ⟨fun h => h.symm, fun h => h.symm⟩
  have e2 : nd x.2.2 y.2.2 = nd y.2.2 x.2.2 := by unfold nd; omega
  have e3 : wkD I x.2.1 y.2.1 = wkD I y.2.1 x.2.1 := by
    unfold wkD flD nd
    simp only [Nat.add_comm]
  rw [e1, e2, e3]
theorem okF_c (I : IA) (a : Tri) (F : List Tri) (y : Tri) : okF I (a :: F) y = (!unlS I a y && okF I F y) := by
  unfold okF
  rw [List.all_cons]
/-- the order of what is kept doesn't matter -/
theorem mx_F (I : IA) : ∀ (r F G : List Tri), (∀ y, okF I F y = okF I G y) → mx I F r = mx I G r := by
  intro r
  induction r with
  | nil => intro F G _; rfl
  | cons y r ih =>
    intro F G h
    unfold mx
    rw [h y, ih F G h, ih (y :: F) (y :: G) (fun z => by rw [okF_c, okF_c, h z])]
theorem mx_sw (I : IA) (a b : Tri) (r F : List Tri) : mx I F (a :: b :: r) = mx I F (b :: a :: r) := by
  have e : mx I (a :: b :: F) r = mx I (b :: a :: F) r := mx_F I r _ _ (fun y => by
    rw [okF_c, okF_c, okF_c, okF_c]
    cases unlS I a y <;> cases unlS I b y <;> rfl)
  have s := unl_sy I a b
  unfold mx
  unfold mx
  rw [okF_c, okF_c, e, s]
  cases okF I F a <;> cases okF I F b <;> cases unlS I b a <;> simp only [Bool.not_true, Bool.not_false, Bool.true_and, Bool.false_and, Bool.and_true, Bool.and_false, if_true, if_false, Bool.false_eq_true, Nat.max_def] <;> (repeat' split) <;> omega
theorem mx_pm (I : IA) {r r' : List Tri} (h : r.Perm r') : ∀ F, mx I F r = mx I F r' := by
  induction h with
  | nil => intro F; rfl
  | cons y _ ih =>
    intro F
    unfold mx
    rw [ih F, ih (y :: F)]
  | swap a b r => intro F; exact mx_sw I b a r F
  | trans _ _ ih1 ih2 => intro F; rw [ih1 F, ih2 F]

