/-! Porters: the first of the best orders -/
section PLex
variable {J : List Tri}
theorem fold_same {α β : Type} {f : β → α → β} {b : β} : ∀ (l : List α), (∀ a, a ∈ l → f b a = b) → l.foldl f b = b := by
  intro l
  induction l with
  | nil => intro _; rfl
  | cons a l ih =>
    intro h
    rw [List.foldl_cons, h a (List.mem_cons_self ..)]
    exact ih (fun x hx => h x (List.mem_cons_of_mem _ hx))
theorem tryJ_hi {opt : Nat} : ∀ n row b, row.length + n = J.length → BegJ J.length row → (∀ c, POk J.length (row ++ c) → opt < doneS J (row ++ c)) → opt < b.1 → opt < (tryJ J n row b).1 := by
  intro n
  induction n with
  | zero =>
    intro row b h1 h2 h3 h4
    unfold tryJ
    split
    · have := h3 [] (by rw [List.append_nil]; exact ⟨by omega, h2.1, h2.2⟩)
      rw [List.append_nil] at this
      exact this
    · exact h4
  | succ n ih =>
    intro row b h1 h2 h3 h4
    unfold tryJ
    refine fold_inv (P := fun x : Nat × List Nat => opt < x.1) _ b h4 (fun x j hj hx => ?_)
    split
    · exact hx
    · rename_i q
      refine ih _ _ (by rw [List.length_append]; show row.length + 1 + n = _; omega) (h2.snoc (List.mem_range.mp hj) (fun w => q (List.contains_iff_mem.mpr w))) (fun c hc => ?_) hx
      have e : row ++ [j] ++ c = row ++ j :: c := by simp
      rw [e] at hc ⊢
      exact h3 _ hc
theorem tryJ_keep : ∀ n row (b : Nat × List Nat), row.length + n = J.length → BegJ J.length row → (∀ c, POk J.length (row ++ c) → b.1 ≤ doneS J (row ++ c)) → tryJ J n row b = b := by
  intro n
  induction n with
  | zero =>
    intro row b h1 h2 h3
    have := h3 [] (by rw [List.append_nil]; exact ⟨by omega, h2.1, h2.2⟩)
    rw [List.append_nil] at this
    unfold tryJ
    rw [if_neg (by omega)]
  | succ n ih =>
    intro row b h1 h2 h3
    unfold tryJ
    refine fold_same _ (fun j hj => ?_)
    split
    · rfl
    · rename_i q
      refine ih _ _ (by rw [List.length_append]; show row.length + 1 + n = _; omega) (h2.snoc (List.mem_range.mp hj) (fun w => q (List.contains_iff_mem.mpr w))) (fun c hc => ?_)
      have e : row ++ [j] ++ c = row ++ j :: c := by simp
      rw [e] at hc ⊢
      exact h3 _ hc
/-- at each place the first that can be -/
def LexR (J : List Tri) (lim : Nat) (row : List Nat) : Prop := ∀ (m x i : Nat), row[m]? = some x → i < x → i ∉ row.take m → ¬ FPJ J lim (row.take m ++ [i])
theorem LexR.snoc {lim : Nat} {row : List Nat} (h : LexR J lim row) {x : Nat} (hx : ∀ i, i < x → i ∉ row → ¬ FPJ J lim (row ++ [i])) : LexR J lim (row ++ [x]) := by
  intro m y i hm hi hn
  rcases Nat.lt_or_ge m row.length with z | z
  · rw [List.getElem?_append_left z] at hm
    rw [List.take_append_of_le_length (by omega)] at hn ⊢
    exact h m y i hm hi hn
  · have := ln_of hm
    rw [List.length_append] at this
    have this : m < row.length + 1 := this
    have e : m = row.length := by omega
    subst e
    rw [List.getElem?_append_right (Nat.le_refl _), Nat.sub_self] at hm
    cases hm
    rw [List.take_left] at hn ⊢
    exact hx i hi hn
theorem tryJ_lex {opt : Nat} {R : List Nat} (hR : POk J.length R) (hd : doneS J R = opt) (hm : ∀ c, POk J.length c → opt ≤ doneS J c) (hx : LexR J opt R) : ∀ n k (b : Nat × List Nat), k + n = J.length → opt < b.1 → tryJ J n (R.take k) b = (opt, R) := by
  have hl := hR.1
  have bg : ∀ k, BegJ J.length (R.take k) := fun k => ⟨hR.2.1.sublist (List.take_sublist k R), fun j hj => hR.2.2 j (List.mem_of_mem_take hj)⟩
  intro n
  induction n with
  | zero =>
    intro k b hk hb
    rw [List.take_of_length_le (by omega)]
    unfold tryJ
    rw [hd, if_pos hb]
  | succ n ih =>
    intro k b hk hb
    have hkl : k < R.length := by omega
    obtain ⟨j, hj⟩ : ∃ j, R[k]? = some j := ⟨_, List.getElem?_eq_getElem hkl⟩
    have hjl := hR.2.2 j (List.mem_of_getElem? hj)
    have tk : R.take (k + 1) = R.take k ++ [j] := by
      rw [List.take_add_one, hj]
      rfl
    have tl : (R.take k).length = k := by rw [List.length_take]; omega
    have jn : j ∉ R.take k := by
      have := (bg (k + 1)).1
      rw [tk] at this
      intro w
      exact (List.nodup_append.mp this).2.2 j w j (List.mem_singleton.mpr rfl) rfl
    unfold tryJ
    have dr : (List.range J.length).drop j = j :: (List.range J.length).drop (j + 1) := by
      rw [List.drop_eq_getElem_cons (by rw [List.length_range]; omega), List.getElem_range]
    have sp : List.range J.length = (List.range J.length).take j ++ (j :: (List.range J.length).drop (j + 1)) := by
      rw [← dr, List.take_append_drop]
    rw [sp, List.foldl_append, List.foldl_cons]
    have p1 : opt < (((List.range J.length).take j).foldl (fun b i => if (R.take k).contains i then b else tryJ J n (R.take k ++ [i]) b) b).1 := by
      refine fold_inv (P := fun x : Nat × List Nat => opt < x.1) _ b hb (fun x i hi hxx => ?_)
      have il : i < j := by
        obtain ⟨m, hm'⟩ := List.getElem?_of_mem hi
        have h1 := ln_of hm'
        rw [List.length_take] at h1
        rw [List.getElem?_take, if_pos (by omega)] at hm'
        have h2 := ln_of hm'
        rw [List.length_range] at h2
        rw [List.getElem?_range h2] at hm'
        cases hm'
        omega
      split
      · exact hxx
      · rename_i q
        have q' : i ∉ R.take k := fun w => q (List.contains_iff_mem.mpr w)
        have nf := hx k j i hj il q'
        refine tryJ_hi _ _ _ (by rw [List.length_append, tl]; show k + 1 + n = _; omega) ((bg k).snoc (by omega) q') (fun c hc => ?_) hxx
        rcases Nat.lt_or_ge opt (doneS J (R.take k ++ [i] ++ c)) with w | w
        · exact w
        · exact absurd ⟨c, hc, w⟩ nf
    generalize ((List.range J.length).take j).foldl (fun b i => if (R.take k).contains i then b else tryJ J n (R.take k ++ [i]) b) b = b1 at p1 ⊢
    have cj : (R.take k).contains j = false := by
      rw [← Bool.not_eq_true]
      intro w
      exact jn (List.contains_iff_mem.mp w)
    rw [cj, if_neg (by simp), ← tk, ih (k + 1) b1 (by omega) p1]
    refine fold_same _ (fun i hi => ?_)
    split
    · rfl
    · rename_i q
      have il : i < J.length := List.mem_range.mp (List.mem_of_mem_drop hi)
      exact tryJ_keep _ _ _ (by rw [List.length_append, tl]; show k + 1 + n = _; omega) ((bg k).snoc il (fun w => q (List.contains_iff_mem.mpr w))) (fun c hc => hm _ hc)
theorem pBest_lex (hJ : JOk J) {R : List Nat} (hR : POk J.length R) (hd : doneS J R ≤ (pBest J).1) (hx : LexR J (pBest J).1 R) : (pBest J).2 = R := by
  have hm : ∀ c, POk J.length c → (pBest J).1 ≤ doneS J c := fun c hc => tryJ_min J.length [] _ (by simp) c hc
  have h3 := (pBest_ok hJ).2.2
  have := tryJ_lex (J := J) (opt := (pBest J).1) hR (Nat.le_antisymm hd (hm R hR)) hm hx J.length 0 (100000000, []) (by omega) (by show _ < 100000000; omega)
  have this : pBest J = ((pBest J).1, R) := this
  rw [this]
/-- what can be done by a minute -/
theorem can_iff (hJ : JOk J) (lim : Nat) : (0 : Int) ≤ latJ J lim (2 ^ J.length - 1) ↔ (pBest J).1 ≤ lim := by
  have hb : BegJ J.length [] := ⟨List.nodup_nil, fun j hj => by cases hj⟩
  have e : lfJ J.length [] = 2 ^ J.length - 1 := by
    have h1 := msk_1 J.length
    have h2 : lfJ J.length [] = msk (fun _ => true) J.length := msk_ext (fun k _ => by simp)
    omega
  have f := FPJ_iff (J := J) (lim := lim) hJ.1 hb
  have z1 : (dbS J []).1 = 0 := rfl
  have z2' : (dbS J []).2.1 = 0 := rfl
  rw [e, z1, z2'] at f
  have f2 : FPJ J lim [] ↔ (0 : Int) ≤ latJ J lim (2 ^ J.length - 1) := f.trans ⟨fun h => h.2, fun h => ⟨Nat.zero_le _, h⟩⟩
  rw [← f2]
  constructor
  · rintro ⟨c, h1, h2⟩
    exact Nat.le_trans (tryJ_min J.length [] _ (by simp) c h1) h2
  · intro h
    obtain ⟨a1, a2, a3⟩ := pBest_ok hJ
    exact ⟨(pBest J).2, a1, by show doneS J (pBest J).2 ≤ lim; omega⟩
theorem latJ_m {lim s : Nat} (h : s ≤ 128) : -1 ≤ latJ J lim s := by
  by_cases z : s = 0
  · rw [z, latJ_0]; omega
  · rw [latJ_s (by omega) h]
    exact lmJ_m _
theorem latJ_le (hJ : JOk J) {lim s : Nat} : s ≤ 128 → latJ J lim s ≤ (lim : Int) := by
  induction s using Nat.strongRecOn with
  | ind s ih =>
    intro h
    by_cases z : s = 0
    · rw [z, latJ_0]; exact Int.le_refl _
    · rw [latJ_s (by omega) h]
      rcases lmJ_ex (J := J) (lim := lim) (f := latJ J lim) (s := s) J.length with u | ⟨k, a1, a2, a3, a4⟩
      · omega
      · rw [a4]
        unfold lsJ
        split <;> omega
end PLex

