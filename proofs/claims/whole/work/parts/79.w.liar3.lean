/-! Liars: sorted by minutes -/
theorem ins_pm (x : Tri) : ∀ l, (insT x l).Perm (x :: l) := by
  intro l
  induction l with
  | nil => exact List.Perm.refl _
  | cons y l ih =>
    unfold insT
    split
    · exact List.Perm.refl _
    · exact (List.Perm.cons y ih).trans (List.Perm.swap x y l)
theorem srt_pm : ∀ l : List Tri, l.Perm (srtT l) := by
  have key : ∀ (l a : List Tri), (l ++ a).Perm (l.foldl (fun a x => insT x a) a) := by
    intro l
    induction l with
    | nil => intro a; exact List.Perm.refl _
    | cons x l ih =>
      intro a
      rw [List.foldl_cons]
      refine List.Perm.trans ?_ (ih (insT x a))
      refine List.Perm.trans ?_ (List.Perm.append_left l (ins_pm x a).symm)
      exact List.perm_middle.symm
  intro l
  have := key l []
  rw [List.append_nil] at this
  exact this
theorem mx_srt (I : IA) (l : List Tri) : mx I [] l = mx I [] (srtT l) := mx_pm I (srt_pm l) []

