/-! The model: porters, told -/
abbrev DB : Type := Nat × Nat × Nat × (Nat → Nat) × (Nat → Nat)
def jOn (x : Tri) (free : Nat) : Nat := if free < x.1 then x.1 else free
def dbF (J : List Tri) (s : DB) (j : Nat) : DB :=
  (jOn (J.getD j (0, 0, 0)) s.1 + (J.getD j (0, 0, 0)).2.1,
   (if s.2.1 < jOn (J.getD j (0, 0, 0)) s.1 + (J.getD j (0, 0, 0)).2.1 + (J.getD j (0, 0, 0)).2.2 then jOn (J.getD j (0, 0, 0)) s.1 + (J.getD j (0, 0, 0)).2.1 + (J.getD j (0, 0, 0)).2.2 else s.2.1),
   s.2.2.1 + (jOn (J.getD j (0, 0, 0)) s.1 - (J.getD j (0, 0, 0)).1),
   fu s.2.2.2.1 j (jOn (J.getD j (0, 0, 0)) s.1 - (J.getD j (0, 0, 0)).1),
   fu s.2.2.2.2 j (jOn (J.getD j (0, 0, 0)) s.1 + (J.getD j (0, 0, 0)).2.1 + (J.getD j (0, 0, 0)).2.2))
def db0 : DB := (0, 0, 0, fun _ => 0, fun _ => 0)
def dbS (J : List Tri) (row : List Nat) : DB := row.foldl (dbF J) db0
def doneS (J : List Tri) (row : List Nat) : Nat := (dbS J row).2.1
/-- jobs that can be -/
def JOk (J : List Tri) : Prop := J.length ≤ 7 ∧ ∀ x, x ∈ J → x.1 ≤ 99 ∧ 1 ≤ x.2.1 ∧ x.2.1 ≤ 99 ∧ x.2.2 ≤ 99
theorem jOn_ge (x : Tri) (f : Nat) : x.1 ≤ jOn x f := by unfold jOn; split <;> omega
theorem JOk.at {J : List Tri} (hJ : JOk J) (j : Nat) : (J.getD j (0, 0, 0)).1 ≤ 99 ∧ (J.getD j (0, 0, 0)).2.1 ≤ 99 ∧ (J.getD j (0, 0, 0)).2.2 ≤ 99 := by
  rw [List.getD_eq_getElem?_getD]
  cases q : J[j]? with
  | none => exact ⟨by decide, by decide, by decide⟩
  | some x =>
    have := hJ.2 x (List.mem_of_getElem? q)
    exact ⟨this.1, this.2.2.1, this.2.2.2⟩
theorem dbF_le {J : List Tri} (hJ : JOk J) {s : DB} {k : Nat} (j : Nat) (h1 : s.1 ≤ 198 * k) (h2 : s.2.1 ≤ 198 * k + 99) : (dbF J s j).1 ≤ 198 * (k + 1) ∧ (dbF J s j).2.1 ≤ 198 * (k + 1) + 99 := by
  obtain ⟨a, b, c⟩ := hJ.at j
  have d : jOn (J.getD j (0, 0, 0)) s.1 ≤ 198 * k + 99 := by unfold jOn; split <;> omega
  constructor
  · show jOn (J.getD j (0, 0, 0)) s.1 + (J.getD j (0, 0, 0)).2.1 ≤ _
    omega
  · show (if s.2.1 < jOn (J.getD j (0, 0, 0)) s.1 + (J.getD j (0, 0, 0)).2.1 + (J.getD j (0, 0, 0)).2.2 then jOn (J.getD j (0, 0, 0)) s.1 + (J.getD j (0, 0, 0)).2.1 + (J.getD j (0, 0, 0)).2.2 else s.2.1) ≤ _
    split <;> omega
theorem dbL_le {J : List Tri} (hJ : JOk J) : ∀ (row : List Nat) (s : DB) (k : Nat), s.1 ≤ 198 * k → s.2.1 ≤ 198 * k + 99 → (row.foldl (dbF J) s).1 ≤ 198 * (k + row.length) ∧ (row.foldl (dbF J) s).2.1 ≤ 198 * (k + row.length) + 99 := by
  intro row
  induction row with
  | nil => intro s k h1 h2; exact ⟨h1, h2⟩
  | cons j row ih =>
    intro s k h1 h2
    obtain ⟨a, b⟩ := dbF_le hJ j h1 h2
    have := ih (dbF J s j) (k + 1) a b
    rw [List.foldl_cons, List.length_cons, show k + (row.length + 1) = k + 1 + row.length by omega]
    exact this
theorem doneS_le {J : List Tri} (hJ : JOk J) {row : List Nat} (h : row.length ≤ 7) : doneS J row ≤ 1485 := by
  have := (dbL_le hJ row db0 0 (Nat.le_refl _) (Nat.zero_le _)).2
  unfold doneS dbS
  omega
/-- all orders from here on, one behind the other: the best so far -/
def tryJ (J : List Tri) : Nat → List Nat → Nat × List Nat → Nat × List Nat
  | 0 => fun row b => if doneS J row < b.1 then (doneS J row, row) else b
  | n + 1 => fun row b => (List.range J.length).foldl (fun b j => if row.contains j then b else tryJ J n (row ++ [j]) b) b
theorem fold_inv {α β : Type} {f : β → α → β} {P : β → Prop} : ∀ (l : List α) (b : β), P b → (∀ b a, a ∈ l → P b → P (f b a)) → P (l.foldl f b) := by
  intro l
  induction l with
  | nil => intro b h _; exact h
  | cons a l ih =>
    intro b h hf
    exact ih _ (hf b a (List.mem_cons_self ..) h) (fun b x hx => hf b x (List.mem_cons_of_mem _ hx))
theorem tryJ_le {J : List Tri} : ∀ n row b, (tryJ J n row b).1 ≤ b.1 := by
  intro n
  induction n with
  | zero =>
    intro row b
    unfold tryJ
    split
    · show doneS J row ≤ _; omega
    · exact Nat.le_refl _
  | succ n ih =>
    intro row b
    unfold tryJ
    refine fold_inv (P := fun x => x.1 ≤ b.1) _ b (Nat.le_refl _) (fun x j _ hx => ?_)
    split
    · exact hx
    · exact Nat.le_trans (ih _ _) hx
/-- an order of jobs, whole -/
def POk (L : Nat) (row : List Nat) : Prop := row.length = L ∧ row.Nodup ∧ ∀ j, j ∈ row → j < L
theorem tryJ_ok {J : List Tri} : ∀ n row b, row.length + n = J.length → row.Nodup → (∀ j, j ∈ row → j < J.length) → (b.1 < 100000000 → POk J.length b.2 ∧ b.1 = doneS J b.2) → ((tryJ J n row b).1 < 100000000 → POk J.length (tryJ J n row b).2 ∧ (tryJ J n row b).1 = doneS J (tryJ J n row b).2) := by
  intro n
  induction n with
  | zero =>
    intro row b h1 h2 h3 h4
    unfold tryJ
    split
    · intro _; exact ⟨⟨by omega, h2, h3⟩, rfl⟩
    · exact h4
  | succ n ih =>
    intro row b h1 h2 h3 h4
    unfold tryJ
    refine fold_inv (P := fun x : Nat × List Nat => x.1 < 100000000 → POk J.length x.2 ∧ x.1 = doneS J x.2) _ b h4 (fun x j hj hx => ?_)
    split
    · exact hx
    · rename_i q
      refine ih _ _ (by rw [List.length_append]; show row.length + 1 + n = _; omega) ?_ ?_ hx
      · rw [List.nodup_append]
        refine ⟨h2, List.nodup_cons.mpr ⟨List.not_mem_nil, List.nodup_nil⟩, ?_⟩
        intro a ha b hb
        rw [List.mem_singleton.mp hb]
        intro z
        subst z
        exact q (List.contains_iff_mem.mpr ha)
      · intro y hy
        rcases List.mem_append.mp hy with z | z
        · exact h3 y z
        · rw [List.mem_singleton.mp z]
          exact List.mem_range.mp hj
section MJobs
variable {N : Nat} {h : PH} {A : AA}
theorem m_jobOf (hF : 80 + 25 ≤ h.length) {M : OD} {J : List Tri} (hS : segT 473 (oa M 17) J) {j : Nat} (hj : j < J.length) (hl : J.length ≤ 7) : f_X12_jobOf N 80 (Int32.ofNat j) 0 (pt sX12 80 M h) = some (Int32.ofNat (J.getD j (0, 0, 0)).1, pt sX12 80 M h) ∧ f_X12_jobOf N 80 (Int32.ofNat j) 1 (pt sX12 80 M h) = some (Int32.ofNat (J.getD j (0, 0, 0)).2.1, pt sX12 80 M h) ∧ f_X12_jobOf N 80 (Int32.ofNat j) 2 (pt sX12 80 M h) = some (Int32.ofNat (J.getD j (0, 0, 0)).2.2, pt sX12 80 M h) := by
  have hx : J[j]? = some (J.getD j (0, 0, 0)) := by
    rw [List.getD_eq_getElem?_getD, List.getElem?_eq_getElem hj]
    rfl
  obtain ⟨a, b, c⟩ := hS.2 j _ hx
  unfold f_X12_jobOf
  refine ⟨?_, ?_, ?_⟩
  · simp (disch := first | (with_reducible assumption) | (simp only [oi_si, oi_sl, oi_sa, oi_sm, oi_sv, oi_sq, ol_si, ol_sl, ol_sa, ol_sm, ol_sv, ol_sq, oa_si, oa_sl, oa_sa, oa_sm, oa_sv, oa_sq, om_si, om_sl, om_sa, om_sm, om_sv, om_sq, ov_si, ov_sl, ov_sa, ov_sm, ov_sv, ov_sq, oq_si, oq_sl, oq_sa, oq_sm, oq_sv, oq_sq, Nat.reduceEqDiff, ↓reduceIte]; done) | omega | (exact ixn (by omega) (by omega)) | (exact ixl (by decide) (by decide)) | (simp only [pt_len, pl, z0, z1, z2, z3, z4, z5, z6, z7, z8, z9, z10, z11, z12]; omega)) only [↓gb_m, ↓gc_m, ↓gl_s, ↓gg_m, gb_s, gc_s, gg_t, gqm_0, gqm_1, pt_pt, sa_sa, sm_sm, si_si, qk12, qg12_0, qs12_0, qg12_1, qg12_2, qs12_2, qg12_3, qs12_3, qg12_4, qg12_5, qg12_6, qg12_7, qs12_7, qg12_8, qs12_8, qg12_9, qg12_10, qg12_11, qg12_12, qg12_13, qs12_13, qg12_14, qg12_15, qg12_16, qg12_17, qg12_18, qs12_18, qg12_19, qg12_20, qg12_21, qg12_22, qg12_23, qs12_23, qg12_24, qs12_24, qg12_25, qs12_25, qg12_26, qs12_26, qg12_27, qs12_27, qg12_28, qs12_28, qg12_29, qg12_30, qs12_30, qg12_31, qg12_32, qg12_33, qg12_34, qg12_35, qg12_36, qs12_36, qg12_37, qs12_37, qg12_38, qs12_38, qg12_39, qs12_39, qg12_40, qs12_40, qg12_41, qg12_42, qs12_42, qg12_43, qs12_43, qg12_44, qs12_44, qg12_45, qs12_45, qg12_46, qs12_46, qg12_47, qa12_1, qe12_1, ql12_1, qa12_4, qe12_4, ql12_4, qa12_5, qe12_5, ql12_5, qa12_6, qe12_6, ql12_6, qa12_9, qe12_9, ql12_9, qa12_10, qe12_10, ql12_10, qa12_11, qe12_11, ql12_11, qa12_12, qe12_12, ql12_12, qa12_14, qe12_14, ql12_14, qa12_15, qe12_15, ql12_15, qa12_16, qe12_16, ql12_16, qa12_17, qe12_17, ql12_17, qa12_19, qe12_19, ql12_19, qa12_20, qe12_20, ql12_20, qa12_21, qe12_21, ql12_21, qa12_22, qe12_22, ql12_22, qa12_29, qe12_29, ql12_29, qa12_31, qe12_31, ql12_31, qa12_32, qe12_32, ql12_32, qa12_33, qe12_33, ql12_33, qa12_34, qe12_34, ql12_34, qa12_35, qe12_35, ql12_35, qa12_41, qe12_41, ql12_41, qa12_47, qe12_47, ql12_47, oi_si, oi_sl, oi_sa, oi_sm, oi_sv, oi_sq, ol_si, ol_sl, ol_sa, ol_sm, ol_sv, ol_sq, oa_si, oa_sl, oa_sa, oa_sm, oa_sv, oa_sq, om_si, om_sl, om_sa, om_sm, om_sv, om_sq, ov_si, ov_sl, ov_sa, ov_sm, ov_sv, ov_sq, oq_si, oq_sl, oq_sa, oq_sm, oq_sv, oq_sq, Nat.reduceEqDiff, ↓reduceIte, n_add, n_addl, n_ladd, n_add1, n_mul, n_lmul, n_mull, n_sub, n_subl, n_subm, n_lt, n_le, n_eq, n_ltl, n_llt, n_lel, n_lle, n_eql, n_leq, n_m1, n_m1l, n_lt0, n_ge0, i_okc, i_okl, if_true, if_false, not_true, not_false, Nat.not_lt_zero, Nat.zero_le, Nat.add_zero]
    rw [show 474 + 3 * j = 473 + 1 + 3 * j by omega, a]
  · simp (disch := first | (with_reducible assumption) | (simp only [oi_si, oi_sl, oi_sa, oi_sm, oi_sv, oi_sq, ol_si, ol_sl, ol_sa, ol_sm, ol_sv, ol_sq, oa_si, oa_sl, oa_sa, oa_sm, oa_sv, oa_sq, om_si, om_sl, om_sa, om_sm, om_sv, om_sq, ov_si, ov_sl, ov_sa, ov_sm, ov_sv, ov_sq, oq_si, oq_sl, oq_sa, oq_sm, oq_sv, oq_sq, Nat.reduceEqDiff, ↓reduceIte]; done) | omega | (exact ixn (by omega) (by omega)) | (exact ixl (by decide) (by decide)) | (simp only [pt_len, pl, z0, z1, z2, z3, z4, z5, z6, z7, z8, z9, z10, z11, z12]; omega)) only [↓gb_m, ↓gc_m, ↓gl_s, ↓gg_m, gb_s, gc_s, gg_t, gqm_0, gqm_1, pt_pt, sa_sa, sm_sm, si_si, qk12, qg12_0, qs12_0, qg12_1, qg12_2, qs12_2, qg12_3, qs12_3, qg12_4, qg12_5, qg12_6, qg12_7, qs12_7, qg12_8, qs12_8, qg12_9, qg12_10, qg12_11, qg12_12, qg12_13, qs12_13, qg12_14, qg12_15, qg12_16, qg12_17, qg12_18, qs12_18, qg12_19, qg12_20, qg12_21, qg12_22, qg12_23, qs12_23, qg12_24, qs12_24, qg12_25, qs12_25, qg12_26, qs12_26, qg12_27, qs12_27, qg12_28, qs12_28, qg12_29, qg12_30, qs12_30, qg12_31, qg12_32, qg12_33, qg12_34, qg12_35, qg12_36, qs12_36, qg12_37, qs12_37, qg12_38, qs12_38, qg12_39, qs12_39, qg12_40, qs12_40, qg12_41, qg12_42, qs12_42, qg12_43, qs12_43, qg12_44, qs12_44, qg12_45, qs12_45, qg12_46, qs12_46, qg12_47, qa12_1, qe12_1, ql12_1, qa12_4, qe12_4, ql12_4, qa12_5, qe12_5, ql12_5, qa12_6, qe12_6, ql12_6, qa12_9, qe12_9, ql12_9, qa12_10, qe12_10, ql12_10, qa12_11, qe12_11, ql12_11, qa12_12, qe12_12, ql12_12, qa12_14, qe12_14, ql12_14, qa12_15, qe12_15, ql12_15, qa12_16, qe12_16, ql12_16, qa12_17, qe12_17, ql12_17, qa12_19, qe12_19, ql12_19, qa12_20, qe12_20, ql12_20, qa12_21, qe12_21, ql12_21, qa12_22, qe12_22, ql12_22, qa12_29, qe12_29, ql12_29, qa12_31, qe12_31, ql12_31, qa12_32, qe12_32, ql12_32, qa12_33, qe12_33, ql12_33, qa12_34, qe12_34, ql12_34, qa12_35, qe12_35, ql12_35, qa12_41, qe12_41, ql12_41, qa12_47, qe12_47, ql12_47, oi_si, oi_sl, oi_sa, oi_sm, oi_sv, oi_sq, ol_si, ol_sl, ol_sa, ol_sm, ol_sv, ol_sq, oa_si, oa_sl, oa_sa, oa_sm, oa_sv, oa_sq, om_si, om_sl, om_sa, om_sm, om_sv, om_sq, ov_si, ov_sl, ov_sa, ov_sm, ov_sv, ov_sq, oq_si, oq_sl, oq_sa, oq_sm, oq_sv, oq_sq, Nat.reduceEqDiff, ↓reduceIte, n_add, n_addl, n_ladd, n_add1, n_mul, n_lmul, n_mull, n_sub, n_subl, n_subm, n_lt, n_le, n_eq, n_ltl, n_llt, n_lel, n_lle, n_eql, n_leq, n_m1, n_m1l, n_lt0, n_ge0, i_okc, i_okl, if_true, if_false, not_true, not_false, Nat.not_lt_zero, Nat.zero_le]
    rw [show 474 + 3 * j + 1 = 473 + 1 + 3 * j + 1 by omega, b]
  · simp (disch := first | (with_reducible assumption) | (simp only [oi_si, oi_sl, oi_sa, oi_sm, oi_sv, oi_sq, ol_si, ol_sl, ol_sa, ol_sm, ol_sv, ol_sq, oa_si, oa_sl, oa_sa, oa_sm, oa_sv, oa_sq, om_si, om_sl, om_sa, om_sm, om_sv, om_sq, ov_si, ov_sl, ov_sa, ov_sm, ov_sv, ov_sq, oq_si, oq_sl, oq_sa, oq_sm, oq_sv, oq_sq, Nat.reduceEqDiff, ↓reduceIte]; done) | omega | (exact ixn (by omega) (by omega)) | (exact ixl (by decide) (by decide)) | (simp only [pt_len, pl, z0, z1, z2, z3, z4, z5, z6, z7, z8, z9, z10, z11, z12]; omega)) only [↓gb_m, ↓gc_m, ↓gl_s, ↓gg_m, gb_s, gc_s, gg_t, gqm_0, gqm_1, pt_pt, sa_sa, sm_sm, si_si, qk12, qg12_0, qs12_0, qg12_1, qg12_2, qs12_2, qg12_3, qs12_3, qg12_4, qg12_5, qg12_6, qg12_7, qs12_7, qg12_8, qs12_8, qg12_9, qg12_10, qg12_11, qg12_12, qg12_13, qs12_13, qg12_14, qg12_15, qg12_16, qg12_17, qg12_18, qs12_18, qg12_19, qg12_20, qg12_21, qg12_22, qg12_23, qs12_23, qg12_24, qs12_24, qg12_25, qs12_25, qg12_26, qs12_26, qg12_27, qs12_27, qg12_28, qs12_28, qg12_29, qg12_30, qs12_30, qg12_31, qg12_32, qg12_33, qg12_34, qg12_35, qg12_36, qs12_36, qg12_37, qs12_37, qg12_38, qs12_38, qg12_39, qs12_39, qg12_40, qs12_40, qg12_41, qg12_42, qs12_42, qg12_43, qs12_43, qg12_44, qs12_44, qg12_45, qs12_45, qg12_46, qs12_46, qg12_47, qa12_1, qe12_1, ql12_1, qa12_4, qe12_4, ql12_4, qa12_5, qe12_5, ql12_5, qa12_6, qe12_6, ql12_6, qa12_9, qe12_9, ql12_9, qa12_10, qe12_10, ql12_10, qa12_11, qe12_11, ql12_11, qa12_12, qe12_12, ql12_12, qa12_14, qe12_14, ql12_14, qa12_15, qe12_15, ql12_15, qa12_16, qe12_16, ql12_16, qa12_17, qe12_17, ql12_17, qa12_19, qe12_19, ql12_19, qa12_20, qe12_20, ql12_20, qa12_21, qe12_21, ql12_21, qa12_22, qe12_22, ql12_22, qa12_29, qe12_29, ql12_29, qa12_31, qe12_31, ql12_31, qa12_32, qe12_32, ql12_32, qa12_33, qe12_33, ql12_33, qa12_34, qe12_34, ql12_34, qa12_35, qe12_35, ql12_35, qa12_41, qe12_41, ql12_41, qa12_47, qe12_47, ql12_47, oi_si, oi_sl, oi_sa, oi_sm, oi_sv, oi_sq, ol_si, ol_sl, ol_sa, ol_sm, ol_sv, ol_sq, oa_si, oa_sl, oa_sa, oa_sm, oa_sv, oa_sq, om_si, om_sl, om_sa, om_sm, om_sv, om_sq, ov_si, ov_sl, ov_sa, ov_sm, ov_sv, ov_sq, oq_si, oq_sl, oq_sa, oq_sm, oq_sv, oq_sq, Nat.reduceEqDiff, ↓reduceIte, n_add, n_addl, n_ladd, n_add1, n_mul, n_lmul, n_mull, n_sub, n_subl, n_subm, n_lt, n_le, n_eq, n_ltl, n_llt, n_lel, n_lle, n_eql, n_leq, n_m1, n_m1l, n_lt0, n_ge0, i_okc, i_okl, if_true, if_false, not_true, not_false, Nat.not_lt_zero, Nat.zero_le]
    rw [show 474 + 3 * j + 2 = 473 + 1 + 3 * j + 2 by omega, c]
/-- where an order stands -/
def RowAt (M : OD) (fld : Nat) (row : List Nat) : Prop := ∀ (i x : Nat), row[i]? = some x → oa M fld i = Int32.ofNat x
theorem m_doneBy (hF : 80 + 25 ≤ h.length) (hN : 2000 ≤ N) {J : List Tri} (hJ : JOk J) {q fld : Nat} (hf : fld ∉ [34, 35, 36]) (hf2 : fld ≠ 17) (hq : ∀ (M : OD) (i : Int32), ixok i 7 → arI 0 q i (pt sX12 80 M h) = some (oa M fld i.toNatClampNeg)) {M : OD} (hS : segT 473 (oa M 17) J) {row : List Nat} (hl : row.length = J.length) (hr : ∀ j, j ∈ row → j < J.length) (hR : RowAt M fld row) :
    ∃ M', f_X12_doneBy N 80 q (pt sX12 80 M h) = some (Int32.ofNat (doneS J row), pt sX12 80 M' h) ∧ Keep [34, 35, 36] M M' ∧ oi M' 36 = Int32.ofNat (dbS J row).2.2.1 ∧ ∀ j, j ∈ row → oa M' 34 j = Int32.ofNat ((dbS J row).2.2.2.1 j) ∧ oa M' 35 j = Int32.ofNat ((dbS J row).2.2.2.2 j) := by
  have hl7 := hJ.1
  have key : ∀ n k m M, k + n = J.length → n < m → segT 473 (oa M 17) J → RowAt M fld row → oi M 36 = Int32.ofNat (dbS J (row.take k)).2.2.1 → (∀ j, j ∈ row.take k → oa M 34 j = Int32.ofNat ((dbS J (row.take k)).2.2.2.1 j) ∧ oa M 35 j = Int32.ofNat ((dbS J (row.take k)).2.2.2.2 j)) → ∃ M', gi (fun zk zs => f_X12_doneBy_12 N zk zs.1 zs.2.1 zs.2.2.1 zs.2.2.2.1 zs.2.2.2.2.1 zs.2.2.2.2.2) m (80, q, Int32.ofNat (dbS J (row.take k)).1, Int32.ofNat (dbS J (row.take k)).2.1, Int32.ofNat k, pt sX12 80 M h) = some (Int32.ofNat (doneS J row), pt sX12 80 M' h) ∧ Keep [34, 35, 36] M M' ∧ oi M' 36 = Int32.ofNat (dbS J row).2.2.1 ∧ ∀ j, j ∈ row → oa M' 34 j = Int32.ofNat ((dbS J row).2.2.2.1 j) ∧ oa M' 35 j = Int32.ofNat ((dbS J row).2.2.2.2 j) := by
    intro n
    induction n with
    | zero =>
      intro k m M hk hm hS hR h36 hbe
      obtain ⟨m, rfl⟩ : ∃ k, m = k + 1 := ⟨m - 1, by omega⟩
      rw [gi_1]
      generalize hz : gi _ m = zk
      dsimp only
      have hk : k = J.length := by omega
      subst hk
      rw [List.take_of_length_le (by omega)] at *
      unfold f_X12_doneBy_12
      simp (disch := first | (with_reducible assumption) | (simp only [oi_si, oi_sl, oi_sa, oi_sm, oi_sv, oi_sq, ol_si, ol_sl, ol_sa, ol_sm, ol_sv, ol_sq, oa_si, oa_sl, oa_sa, oa_sm, oa_sv, oa_sq, om_si, om_sl, om_sa, om_sm, om_sv, om_sq, ov_si, ov_sl, ov_sa, ov_sm, ov_sv, ov_sq, oq_si, oq_sl, oq_sa, oq_sm, oq_sv, oq_sq, Nat.reduceEqDiff, ↓reduceIte]; done) | omega | (exact ixn (by omega) (by omega)) | (exact ixl (by decide) (by decide)) | (simp only [pt_len, pl, z0, z1, z2, z3, z4, z5, z6, z7, z8, z9, z10, z11, z12]; omega)) only [↓gb_m, ↓gc_m, ↓gl_s, ↓gg_m, gb_s, gc_s, gg_t, gqm_0, gqm_1, pt_pt, sa_sa, sm_sm, si_si, qk12, qg12_0, qs12_0, qg12_1, qg12_2, qs12_2, qg12_3, qs12_3, qg12_4, qg12_5, qg12_6, qg12_7, qs12_7, qg12_8, qs12_8, qg12_9, qg12_10, qg12_11, qg12_12, qg12_13, qs12_13, qg12_14, qg12_15, qg12_16, qg12_17, qg12_18, qs12_18, qg12_19, qg12_20, qg12_21, qg12_22, qg12_23, qs12_23, qg12_24, qs12_24, qg12_25, qs12_25, qg12_26, qs12_26, qg12_27, qs12_27, qg12_28, qs12_28, qg12_29, qg12_30, qs12_30, qg12_31, qg12_32, qg12_33, qg12_34, qg12_35, qg12_36, qs12_36, qg12_37, qs12_37, qg12_38, qs12_38, qg12_39, qs12_39, qg12_40, qs12_40, qg12_41, qg12_42, qs12_42, qg12_43, qs12_43, qg12_44, qs12_44, qg12_45, qs12_45, qg12_46, qs12_46, qg12_47, qa12_1, qe12_1, ql12_1, qa12_4, qe12_4, ql12_4, qa12_5, qe12_5, ql12_5, qa12_6, qe12_6, ql12_6, qa12_9, qe12_9, ql12_9, qa12_10, qe12_10, ql12_10, qa12_11, qe12_11, ql12_11, qa12_12, qe12_12, ql12_12, qa12_14, qe12_14, ql12_14, qa12_15, qe12_15, ql12_15, qa12_16, qe12_16, ql12_16, qa12_17, qe12_17, ql12_17, qa12_19, qe12_19, ql12_19, qa12_20, qe12_20, ql12_20, qa12_21, qe12_21, ql12_21, qa12_22, qe12_22, ql12_22, qa12_29, qe12_29, ql12_29, qa12_31, qe12_31, ql12_31, qa12_32, qe12_32, ql12_32, qa12_33, qe12_33, ql12_33, qa12_34, qe12_34, ql12_34, qa12_35, qe12_35, ql12_35, qa12_41, qe12_41, ql12_41, qa12_47, qe12_47, ql12_47, oi_si, oi_sl, oi_sa, oi_sm, oi_sv, oi_sq, ol_si, ol_sl, ol_sa, ol_sm, ol_sv, ol_sq, oa_si, oa_sl, oa_sa, oa_sm, oa_sv, oa_sq, om_si, om_sl, om_sa, om_sm, om_sv, om_sq, ov_si, ov_sl, ov_sa, ov_sm, ov_sv, ov_sq, oq_si, oq_sl, oq_sa, oq_sm, oq_sv, oq_sq, Nat.reduceEqDiff, ↓reduceIte, n_add, n_addl, n_ladd, n_add1, n_mul, n_lmul, n_mull, n_sub, n_subl, n_subm, n_lt, n_le, n_eq, n_ltl, n_llt, n_lel, n_lle, n_eql, n_leq, n_m1, n_m1l, n_lt0, n_ge0, i_okc, i_okl, if_true, if_false, not_true, not_false, Nat.not_lt_zero, Nat.zero_le, m_jobs hF hS, Nat.le_refl]
      exact ⟨M, rfl, Keep.rf, h36, hbe⟩
    | succ n ih =>
      intro k m M hk hm hS hR h36 hbe
      obtain ⟨m, rfl⟩ : ∃ k, m = k + 1 := ⟨m - 1, by omega⟩
      rw [gi_1]
      generalize hz : gi _ m = zk
      dsimp only
      have b2 : (J.length ≤ k) = False := propext ⟨fun h => by omega, False.elim⟩
      obtain ⟨j, hj⟩ : ∃ j, row[k]? = some j := ⟨_, List.getElem?_eq_getElem (by omega)⟩
      have hjl := hr j (List.mem_of_getElem? hj)
      have tk : row.take (k + 1) = row.take k ++ [j] := by
        rw [List.take_add_one, hj]
        rfl
      have dk : dbS J (row.take (k + 1)) = dbF J (dbS J (row.take k)) j := by
        unfold dbS
        rw [tk, List.foldl_append]
        rfl
      obtain ⟨l1, l2⟩ := dbL_le hJ (row.take k) db0 0 (Nat.le_refl _) (Nat.zero_le _)
      have l3 : (row.take k).length ≤ 7 := by rw [List.length_take]; omega
      have l1 : (dbS J (row.take k)).1 ≤ 1386 := by unfold dbS; omega
      have l2 : (dbS J (row.take k)).2.1 ≤ 1485 := by unfold dbS; omega
      obtain ⟨a1, a2, a3⟩ := hJ.at j
      generalize hs : dbS J (row.take k) = s at *
      have v1 := fun (M' : OD) (q : oa M' 17 = oa M 17) => (m_jobOf (N := N) hF (M := M') (by rw [q]; exact hS) hjl hl7).1
      have v2 := fun (M' : OD) (q : oa M' 17 = oa M 17) => (m_jobOf (N := N) hF (M := M') (by rw [q]; exact hS) hjl hl7).2.1
      have v3 := fun (M' : OD) (q : oa M' 17 = oa M 17) => (m_jobOf (N := N) hF (M := M') (by rw [q]; exact hS) hjl hl7).2.2
      have rj := hR k j hj
      have rd : arI 0 q (Int32.ofNat k) (pt sX12 80 M h) = some (Int32.ofNat j) := by
        rw [hq M _ (ixn (by omega) (by omega)), i_okc (by omega), rj]
      generalize hx : J.getD j (0, 0, 0) = x at *
      have on1 := jOn_ge x s.1
      have on2 : jOn x s.1 ≤ 1485 := by unfold jOn; split <;> omega
      -- the cells behind this job
      have fin : ∀ M1, M1 = sa (sa (si M 36 (Int32.ofNat (s.2.2.1 + (jOn x s.1 - x.1)))) 34 (upd (oa M 34) j (Int32.ofNat (jOn x s.1 - x.1)))) 35 (upd (oa M 35) j (Int32.ofNat (jOn x s.1 + x.2.1 + x.2.2))) → ∃ M', zk (80, q, Int32.ofNat (dbF J s j).1, Int32.ofNat (dbF J s j).2.1, Int32.ofNat (k + 1), pt sX12 80 M1 h) = some (Int32.ofNat (doneS J row), pt sX12 80 M' h) ∧ Keep [34, 35, 36] M M' ∧ oi M' 36 = Int32.ofNat (dbS J row).2.2.1 ∧ ∀ j, j ∈ row → oa M' 34 j = Int32.ofNat ((dbS J row).2.2.2.1 j) ∧ oa M' 35 j = Int32.ofNat ((dbS J row).2.2.2.2 j) := by
        intro M1 hM1
        have kk : Keep [34, 35, 36] M M1 := by
          rw [hM1]
          (repeat (first | exact Keep.rf | assumption | refine k_si2 ?_ (by decide) | refine k_sa2 ?_ (by decide) | refine k_sm2 ?_ (by decide) | refine k_sl2 ?_ (by decide) | refine k_sv2 ?_ (by decide)))
        have ih' := ih (k + 1) m M1 (by omega) (by omega) (by rw [kk.a (by decide)]; exact hS) (by
          intro i y hy
          rw [kk.a hf]
          exact hR i y hy) (by
          rw [dk, hM1]
          simp only [oi_si, oi_sl, oi_sa, oi_sm, oi_sv, oi_sq, ol_si, ol_sl, ol_sa, ol_sm, ol_sv, ol_sq, oa_si, oa_sl, oa_sa, oa_sm, oa_sv, oa_sq, om_si, om_sl, om_sa, om_sm, om_sv, om_sq, ov_si, ov_sl, ov_sa, ov_sm, ov_sv, ov_sq, oq_si, oq_sl, oq_sa, oq_sm, oq_sv, oq_sq, Nat.reduceEqDiff, ↓reduceIte]
          show _ = Int32.ofNat (s.2.2.1 + (jOn (J.getD j (0, 0, 0)) s.1 - (J.getD j (0, 0, 0)).1))
          rw [hx]) (by
          intro y hy
          rw [dk, hM1]
          simp only [oi_si, oi_sl, oi_sa, oi_sm, oi_sv, oi_sq, ol_si, ol_sl, ol_sa, ol_sm, ol_sv, ol_sq, oa_si, oa_sl, oa_sa, oa_sm, oa_sv, oa_sq, om_si, om_sl, om_sa, om_sm, om_sv, om_sq, ov_si, ov_sl, ov_sa, ov_sm, ov_sv, ov_sq, oq_si, oq_sl, oq_sa, oq_sm, oq_sv, oq_sq, Nat.reduceEqDiff, ↓reduceIte]
          show _ = Int32.ofNat (fu s.2.2.2.1 j (jOn (J.getD j (0, 0, 0)) s.1 - (J.getD j (0, 0, 0)).1) y) ∧ _ = Int32.ofNat (fu s.2.2.2.2 j (jOn (J.getD j (0, 0, 0)) s.1 + (J.getD j (0, 0, 0)).2.1 + (J.getD j (0, 0, 0)).2.2) y)
          rw [hx, upd_at, upd_at, fu_at, fu_at]
          by_cases c : y = j
          · rw [if_pos c, if_pos c, if_pos c, if_pos c]
            exact ⟨rfl, rfl⟩
          · rw [if_neg c, if_neg c, if_neg c, if_neg c]
            rw [tk] at hy
            rcases List.mem_append.mp hy with z | z
            · exact hbe y z
            · exact absurd (List.mem_singleton.mp z) c)
        obtain ⟨M', f1, f2, f3, f4⟩ := ih'
        rw [hz, dk] at f1
        exact ⟨M', f1, kk.tr f2, f3, f4⟩
      have body : ∀ on : Nat, on = jOn x s.1 → ∃ M', f_X12_doneBy_49 N zk 80 q (Int32.ofNat s.2.1) (Int32.ofNat k) (Int32.ofNat j) (Int32.ofNat on) (pt sX12 80 M h) = some (Int32.ofNat (doneS J row), pt sX12 80 M' h) ∧ Keep [34, 35, 36] M M' ∧ oi M' 36 = Int32.ofNat (dbS J row).2.2.1 ∧ ∀ j, j ∈ row → oa M' 34 j = Int32.ofNat ((dbS J row).2.2.2.1 j) ∧ oa M' 35 j = Int32.ofNat ((dbS J row).2.2.2.2 j) := by
        intro on hon
        subst hon
        obtain ⟨M', f1, f2⟩ := fin _ rfl
        refine ⟨M', ?_, f2⟩
        rw [← f1]
        unfold f_X12_doneBy_49 f_X12_doneBy_136
        have w0 := v1 M rfl
        have w1 := v1 (si M 36 (Int32.ofNat (s.2.2.1 + (jOn x s.1 - x.1)))) rfl
        have w2 := v2 (si M 36 (Int32.ofNat (s.2.2.1 + (jOn x s.1 - x.1)))) rfl
        have w3 := v3 (sa (si M 36 (Int32.ofNat (s.2.2.1 + (jOn x s.1 - x.1)))) 34 (upd (oa M 34) j (Int32.ofNat (jOn x s.1 - x.1)))) rfl
        simp (disch := first | (with_reducible assumption) | (simp only [oi_si, oi_sl, oi_sa, oi_sm, oi_sv, oi_sq, ol_si, ol_sl, ol_sa, ol_sm, ol_sv, ol_sq, oa_si, oa_sl, oa_sa, oa_sm, oa_sv, oa_sq, om_si, om_sl, om_sa, om_sm, om_sv, om_sq, ov_si, ov_sl, ov_sa, ov_sm, ov_sv, ov_sq, oq_si, oq_sl, oq_sa, oq_sm, oq_sv, oq_sq, Nat.reduceEqDiff, ↓reduceIte]; done) | omega | (exact ixn (by omega) (by omega)) | (exact ixl (by decide) (by decide)) | (simp only [pt_len, pl, z0, z1, z2, z3, z4, z5, z6, z7, z8, z9, z10, z11, z12]; omega)) only [↓gb_m, ↓gc_m, ↓gl_s, ↓gg_m, gb_s, gc_s, gg_t, gqm_0, gqm_1, pt_pt, sa_sa, sm_sm, si_si, qk12, qg12_0, qs12_0, qg12_1, qg12_2, qs12_2, qg12_3, qs12_3, qg12_4, qg12_5, qg12_6, qg12_7, qs12_7, qg12_8, qs12_8, qg12_9, qg12_10, qg12_11, qg12_12, qg12_13, qs12_13, qg12_14, qg12_15, qg12_16, qg12_17, qg12_18, qs12_18, qg12_19, qg12_20, qg12_21, qg12_22, qg12_23, qs12_23, qg12_24, qs12_24, qg12_25, qs12_25, qg12_26, qs12_26, qg12_27, qs12_27, qg12_28, qs12_28, qg12_29, qg12_30, qs12_30, qg12_31, qg12_32, qg12_33, qg12_34, qg12_35, qg12_36, qs12_36, qg12_37, qs12_37, qg12_38, qs12_38, qg12_39, qs12_39, qg12_40, qs12_40, qg12_41, qg12_42, qs12_42, qg12_43, qs12_43, qg12_44, qs12_44, qg12_45, qs12_45, qg12_46, qs12_46, qg12_47, qa12_1, qe12_1, ql12_1, qa12_4, qe12_4, ql12_4, qa12_5, qe12_5, ql12_5, qa12_6, qe12_6, ql12_6, qa12_9, qe12_9, ql12_9, qa12_10, qe12_10, ql12_10, qa12_11, qe12_11, ql12_11, qa12_12, qe12_12, ql12_12, qa12_14, qe12_14, ql12_14, qa12_15, qe12_15, ql12_15, qa12_16, qe12_16, ql12_16, qa12_17, qe12_17, ql12_17, qa12_19, qe12_19, ql12_19, qa12_20, qe12_20, ql12_20, qa12_21, qe12_21, ql12_21, qa12_22, qe12_22, ql12_22, qa12_29, qe12_29, ql12_29, qa12_31, qe12_31, ql12_31, qa12_32, qe12_32, ql12_32, qa12_33, qe12_33, ql12_33, qa12_34, qe12_34, ql12_34, qa12_35, qe12_35, ql12_35, qa12_41, qe12_41, ql12_41, qa12_47, qe12_47, ql12_47, oi_si, oi_sl, oi_sa, oi_sm, oi_sv, oi_sq, ol_si, ol_sl, ol_sa, ol_sm, ol_sv, ol_sq, oa_si, oa_sl, oa_sa, oa_sm, oa_sv, oa_sq, om_si, om_sl, om_sa, om_sm, om_sv, om_sq, ov_si, ov_sl, ov_sa, ov_sm, ov_sv, ov_sq, oq_si, oq_sl, oq_sa, oq_sm, oq_sv, oq_sq, Nat.reduceEqDiff, ↓reduceIte, n_add, n_addl, n_ladd, n_add1, n_mul, n_lmul, n_mull, n_sub, n_subl, n_subm, n_lt, n_le, n_eq, n_ltl, n_llt, n_lel, n_lle, n_eql, n_leq, n_m1, n_m1l, n_lt0, n_ge0, i_okc, i_okl, if_true, if_false, not_true, not_false, Nat.not_lt_zero, Nat.zero_le, w0, w1, w2, w3, h36, upd_eq, gnar_0]
        have d1 : (dbF J s j).1 = jOn x s.1 + x.2.1 := by rw [← hx]; rfl
        have d2 : (dbF J s j).2.1 = if s.2.1 < jOn x s.1 + x.2.1 + x.2.2 then jOn x s.1 + x.2.1 + x.2.2 else s.2.1 := by rw [← hx]; rfl
        rw [d1, d2]
        by_cases c : s.2.1 < jOn x s.1 + x.2.1 + x.2.2
        · rw [if_neg (by omega), if_pos c]
        · rw [if_pos (by omega), if_neg c]
      unfold f_X12_doneBy_12
      simp (disch := first | (with_reducible assumption) | (simp only [oi_si, oi_sl, oi_sa, oi_sm, oi_sv, oi_sq, ol_si, ol_sl, ol_sa, ol_sm, ol_sv, ol_sq, oa_si, oa_sl, oa_sa, oa_sm, oa_sv, oa_sq, om_si, om_sl, om_sa, om_sm, om_sv, om_sq, ov_si, ov_sl, ov_sa, ov_sm, ov_sv, ov_sq, oq_si, oq_sl, oq_sa, oq_sm, oq_sv, oq_sq, Nat.reduceEqDiff, ↓reduceIte]; done) | omega | (exact ixn (by omega) (by omega)) | (exact ixl (by decide) (by decide)) | (simp only [pt_len, pl, z0, z1, z2, z3, z4, z5, z6, z7, z8, z9, z10, z11, z12]; omega)) only [↓gb_m, ↓gc_m, ↓gl_s, ↓gg_m, gb_s, gc_s, gg_t, gqm_0, gqm_1, pt_pt, sa_sa, sm_sm, si_si, qk12, qg12_0, qs12_0, qg12_1, qg12_2, qs12_2, qg12_3, qs12_3, qg12_4, qg12_5, qg12_6, qg12_7, qs12_7, qg12_8, qs12_8, qg12_9, qg12_10, qg12_11, qg12_12, qg12_13, qs12_13, qg12_14, qg12_15, qg12_16, qg12_17, qg12_18, qs12_18, qg12_19, qg12_20, qg12_21, qg12_22, qg12_23, qs12_23, qg12_24, qs12_24, qg12_25, qs12_25, qg12_26, qs12_26, qg12_27, qs12_27, qg12_28, qs12_28, qg12_29, qg12_30, qs12_30, qg12_31, qg12_32, qg12_33, qg12_34, qg12_35, qg12_36, qs12_36, qg12_37, qs12_37, qg12_38, qs12_38, qg12_39, qs12_39, qg12_40, qs12_40, qg12_41, qg12_42, qs12_42, qg12_43, qs12_43, qg12_44, qs12_44, qg12_45, qs12_45, qg12_46, qs12_46, qg12_47, qa12_1, qe12_1, ql12_1, qa12_4, qe12_4, ql12_4, qa12_5, qe12_5, ql12_5, qa12_6, qe12_6, ql12_6, qa12_9, qe12_9, ql12_9, qa12_10, qe12_10, ql12_10, qa12_11, qe12_11, ql12_11, qa12_12, qe12_12, ql12_12, qa12_14, qe12_14, ql12_14, qa12_15, qe12_15, ql12_15, qa12_16, qe12_16, ql12_16, qa12_17, qe12_17, ql12_17, qa12_19, qe12_19, ql12_19, qa12_20, qe12_20, ql12_20, qa12_21, qe12_21, ql12_21, qa12_22, qe12_22, ql12_22, qa12_29, qe12_29, ql12_29, qa12_31, qe12_31, ql12_31, qa12_32, qe12_32, ql12_32, qa12_33, qe12_33, ql12_33, qa12_34, qe12_34, ql12_34, qa12_35, qe12_35, ql12_35, qa12_41, qe12_41, ql12_41, qa12_47, qe12_47, ql12_47, oi_si, oi_sl, oi_sa, oi_sm, oi_sv, oi_sq, ol_si, ol_sl, ol_sa, ol_sm, ol_sv, ol_sq, oa_si, oa_sl, oa_sa, oa_sm, oa_sv, oa_sq, om_si, om_sl, om_sa, om_sm, om_sv, om_sq, ov_si, ov_sl, ov_sa, ov_sm, ov_sv, ov_sq, oq_si, oq_sl, oq_sa, oq_sm, oq_sv, oq_sq, Nat.reduceEqDiff, ↓reduceIte, n_add, n_addl, n_ladd, n_add1, n_mul, n_lmul, n_mull, n_sub, n_subl, n_subm, n_lt, n_le, n_eq, n_ltl, n_llt, n_lel, n_lle, n_eql, n_leq, n_m1, n_m1l, n_lt0, n_ge0, i_okc, i_okl, if_true, if_false, not_true, not_false, Nat.not_lt_zero, Nat.zero_le, m_jobs hF hS, b2, rd, v1]
      by_cases c : x.1 ≤ s.1
      · rw [if_pos c]
        exact body s.1 (by unfold jOn; rw [if_neg (by omega)])
      · rw [if_neg c]
        exact body x.1 (by unfold jOn; rw [if_pos (by omega)])
  unfold f_X12_doneBy
  simp (disch := first | (with_reducible assumption) | (simp only [oi_si, oi_sl, oi_sa, oi_sm, oi_sv, oi_sq, ol_si, ol_sl, ol_sa, ol_sm, ol_sv, ol_sq, oa_si, oa_sl, oa_sa, oa_sm, oa_sv, oa_sq, om_si, om_sl, om_sa, om_sm, om_sv, om_sq, ov_si, ov_sl, ov_sa, ov_sm, ov_sv, ov_sq, oq_si, oq_sl, oq_sa, oq_sm, oq_sv, oq_sq, Nat.reduceEqDiff, ↓reduceIte]; done) | omega | (exact ixn (by omega) (by omega)) | (exact ixl (by decide) (by decide)) | (simp only [pt_len, pl, z0, z1, z2, z3, z4, z5, z6, z7, z8, z9, z10, z11, z12]; omega)) only [↓gb_m, ↓gc_m, ↓gl_s, ↓gg_m, gb_s, gc_s, gg_t, gqm_0, gqm_1, pt_pt, sa_sa, sm_sm, si_si, qk12, qg12_0, qs12_0, qg12_1, qg12_2, qs12_2, qg12_3, qs12_3, qg12_4, qg12_5, qg12_6, qg12_7, qs12_7, qg12_8, qs12_8, qg12_9, qg12_10, qg12_11, qg12_12, qg12_13, qs12_13, qg12_14, qg12_15, qg12_16, qg12_17, qg12_18, qs12_18, qg12_19, qg12_20, qg12_21, qg12_22, qg12_23, qs12_23, qg12_24, qs12_24, qg12_25, qs12_25, qg12_26, qs12_26, qg12_27, qs12_27, qg12_28, qs12_28, qg12_29, qg12_30, qs12_30, qg12_31, qg12_32, qg12_33, qg12_34, qg12_35, qg12_36, qs12_36, qg12_37, qs12_37, qg12_38, qs12_38, qg12_39, qs12_39, qg12_40, qs12_40, qg12_41, qg12_42, qs12_42, qg12_43, qs12_43, qg12_44, qs12_44, qg12_45, qs12_45, qg12_46, qs12_46, qg12_47, qa12_1, qe12_1, ql12_1, qa12_4, qe12_4, ql12_4, qa12_5, qe12_5, ql12_5, qa12_6, qe12_6, ql12_6, qa12_9, qe12_9, ql12_9, qa12_10, qe12_10, ql12_10, qa12_11, qe12_11, ql12_11, qa12_12, qe12_12, ql12_12, qa12_14, qe12_14, ql12_14, qa12_15, qe12_15, ql12_15, qa12_16, qe12_16, ql12_16, qa12_17, qe12_17, ql12_17, qa12_19, qe12_19, ql12_19, qa12_20, qe12_20, ql12_20, qa12_21, qe12_21, ql12_21, qa12_22, qe12_22, ql12_22, qa12_29, qe12_29, ql12_29, qa12_31, qe12_31, ql12_31, qa12_32, qe12_32, ql12_32, qa12_33, qe12_33, ql12_33, qa12_34, qe12_34, ql12_34, qa12_35, qe12_35, ql12_35, qa12_41, qe12_41, ql12_41, qa12_47, qe12_47, ql12_47, oi_si, oi_sl, oi_sa, oi_sm, oi_sv, oi_sq, ol_si, ol_sl, ol_sa, ol_sm, ol_sv, ol_sq, oa_si, oa_sl, oa_sa, oa_sm, oa_sv, oa_sq, om_si, om_sl, om_sa, om_sm, om_sv, om_sq, ov_si, ov_sl, ov_sa, ov_sm, ov_sv, ov_sq, oq_si, oq_sl, oq_sa, oq_sm, oq_sv, oq_sq, Nat.reduceEqDiff, ↓reduceIte, n_add, n_addl, n_ladd, n_add1, n_mul, n_lmul, n_mull, n_sub, n_subl, n_subm, n_lt, n_le, n_eq, n_ltl, n_llt, n_lel, n_lle, n_eql, n_leq, n_m1, n_m1l, n_lt0, n_ge0, i_okc, i_okl, if_true, if_false, not_true, not_false, Nat.not_lt_zero, Nat.zero_le]
  obtain ⟨M', f1, f2, f3, f4⟩ := key J.length 0 N (si M 36 0) (by omega) (by omega) hS hR (by simp only [oi_si, oi_sl, oi_sa, oi_sm, oi_sv, oi_sq, ol_si, ol_sl, ol_sa, ol_sm, ol_sv, ol_sq, oa_si, oa_sl, oa_sa, oa_sm, oa_sv, oa_sq, om_si, om_sl, om_sa, om_sm, om_sv, om_sq, ov_si, ov_sl, ov_sa, ov_sm, ov_sv, ov_sq, oq_si, oq_sl, oq_sa, oq_sm, oq_sv, oq_sq, Nat.reduceEqDiff, ↓reduceIte]; rfl) (fun j hj => by cases hj)
  exact ⟨M', f1, (k_si (by decide)).tr f2, f3, f4⟩
/-- the best so far, as the model has it -/
def JB (b : Nat × List Nat) (M : OD) : Prop := oi M 37 = Int32.ofNat b.1 ∧ RowAt M 33 b.2
abbrev kJ : List Nat := [32, 33, 34, 35, 36, 37]
theorem msk_push {row : List Nat} {j n : Nat} (hj : j < n) (hn : n ≤ 31) : Int32.ofNat (msk (fun k => row.contains k) n) ||| Int32.ofNat (2 ^ j) = Int32.ofNat (msk (fun k => (row ++ [j]).contains k) n) := by
  rw [msk_or _ hj hn]
  congr 1
  apply msk_ext
  intro k hk
  rw [fu_at]
  by_cases c : k = j
  · subst c
    simp
  · rw [if_neg c]
    simp [c]
theorem m_copyRow (hF : 80 + 25 ≤ h.length) (zF : Nat → Int32 → Int32 → PH → Option PH) {row : List Nat} (hl : row.length ≤ 7) : ∀ n k m M, k + n = row.length → n < m → RowAt M 32 row → (∀ i, i < k → oa M 33 i = oa M 32 i) → ∃ M', gi (fun zk zs => f_X12_triesJobs_33 N zF zk zs.1 zs.2.1 zs.2.2.1 zs.2.2.2) m (80, Int32.ofNat row.length, Int32.ofNat k, pt sX12 80 M h) = some (pt sX12 80 M' h) ∧ Keep [33] M M' ∧ RowAt M' 33 row := by
  intro n
  induction n with
  | zero =>
    intro k m M hk hm hR hc
    obtain ⟨m, rfl⟩ : ∃ k, m = k + 1 := ⟨m - 1, by omega⟩
    rw [gi_1]
    generalize hz : gi _ m = zk
    dsimp only
    have hk : k = row.length := by omega
    subst hk
    unfold f_X12_triesJobs_33 f_X12_triesJobs_59
    simp (disch := first | (with_reducible assumption) | (simp only [oi_si, oi_sl, oi_sa, oi_sm, oi_sv, oi_sq, ol_si, ol_sl, ol_sa, ol_sm, ol_sv, ol_sq, oa_si, oa_sl, oa_sa, oa_sm, oa_sv, oa_sq, om_si, om_sl, om_sa, om_sm, om_sv, om_sq, ov_si, ov_sl, ov_sa, ov_sm, ov_sv, ov_sq, oq_si, oq_sl, oq_sa, oq_sm, oq_sv, oq_sq, Nat.reduceEqDiff, ↓reduceIte]; done) | omega | (exact ixn (by omega) (by omega)) | (exact ixl (by decide) (by decide)) | (simp only [pt_len, pl, z0, z1, z2, z3, z4, z5, z6, z7, z8, z9, z10, z11, z12]; omega)) only [↓gb_m, ↓gc_m, ↓gl_s, ↓gg_m, gb_s, gc_s, gg_t, gqm_0, gqm_1, pt_pt, sa_sa, sm_sm, si_si, qk12, qg12_0, qs12_0, qg12_1, qg12_2, qs12_2, qg12_3, qs12_3, qg12_4, qg12_5, qg12_6, qg12_7, qs12_7, qg12_8, qs12_8, qg12_9, qg12_10, qg12_11, qg12_12, qg12_13, qs12_13, qg12_14, qg12_15, qg12_16, qg12_17, qg12_18, qs12_18, qg12_19, qg12_20, qg12_21, qg12_22, qg12_23, qs12_23, qg12_24, qs12_24, qg12_25, qs12_25, qg12_26, qs12_26, qg12_27, qs12_27, qg12_28, qs12_28, qg12_29, qg12_30, qs12_30, qg12_31, qg12_32, qg12_33, qg12_34, qg12_35, qg12_36, qs12_36, qg12_37, qs12_37, qg12_38, qs12_38, qg12_39, qs12_39, qg12_40, qs12_40, qg12_41, qg12_42, qs12_42, qg12_43, qs12_43, qg12_44, qs12_44, qg12_45, qs12_45, qg12_46, qs12_46, qg12_47, qa12_1, qe12_1, ql12_1, qa12_4, qe12_4, ql12_4, qa12_5, qe12_5, ql12_5, qa12_6, qe12_6, ql12_6, qa12_9, qe12_9, ql12_9, qa12_10, qe12_10, ql12_10, qa12_11, qe12_11, ql12_11, qa12_12, qe12_12, ql12_12, qa12_14, qe12_14, ql12_14, qa12_15, qe12_15, ql12_15, qa12_16, qe12_16, ql12_16, qa12_17, qe12_17, ql12_17, qa12_19, qe12_19, ql12_19, qa12_20, qe12_20, ql12_20, qa12_21, qe12_21, ql12_21, qa12_22, qe12_22, ql12_22, qa12_29, qe12_29, ql12_29, qa12_31, qe12_31, ql12_31, qa12_32, qe12_32, ql12_32, qa12_33, qe12_33, ql12_33, qa12_34, qe12_34, ql12_34, qa12_35, qe12_35, ql12_35, qa12_41, qe12_41, ql12_41, qa12_47, qe12_47, ql12_47, oi_si, oi_sl, oi_sa, oi_sm, oi_sv, oi_sq, ol_si, ol_sl, ol_sa, ol_sm, ol_sv, ol_sq, oa_si, oa_sl, oa_sa, oa_sm, oa_sv, oa_sq, om_si, om_sl, om_sa, om_sm, om_sv, om_sq, ov_si, ov_sl, ov_sa, ov_sm, ov_sv, ov_sq, oq_si, oq_sl, oq_sa, oq_sm, oq_sv, oq_sq, Nat.reduceEqDiff, ↓reduceIte, n_add, n_addl, n_ladd, n_add1, n_mul, n_lmul, n_mull, n_sub, n_subl, n_subm, n_lt, n_le, n_eq, n_ltl, n_llt, n_lel, n_lle, n_eql, n_leq, n_m1, n_m1l, n_lt0, n_ge0, i_okc, i_okl, if_true, if_false, not_true, not_false, Nat.not_lt_zero, Nat.zero_le, Nat.le_refl]
    refine ⟨M, rfl, Keep.rf, ?_⟩
    intro i x hx
    rw [hc i (ln_of hx)]
    exact hR i x hx
  | succ n ih =>
    intro k m M hk hm hR hc
    obtain ⟨m, rfl⟩ : ∃ k, m = k + 1 := ⟨m - 1, by omega⟩
    rw [gi_1]
    generalize hz : gi _ m = zk
    dsimp only
    have b2 : (row.length ≤ k) = False := propext ⟨fun h => by omega, False.elim⟩
    obtain ⟨M', f1, f2, f3⟩ := ih (k + 1) m (sa M 33 (upd (oa M 33) k (oa M 32 k))) (by omega) (by omega) hR (by
      intro i hi
      simp only [oi_si, oi_sl, oi_sa, oi_sm, oi_sv, oi_sq, ol_si, ol_sl, ol_sa, ol_sm, ol_sv, ol_sq, oa_si, oa_sl, oa_sa, oa_sm, oa_sv, oa_sq, om_si, om_sl, om_sa, om_sm, om_sv, om_sq, ov_si, ov_sl, ov_sa, ov_sm, ov_sv, ov_sq, oq_si, oq_sl, oq_sa, oq_sm, oq_sv, oq_sq, Nat.reduceEqDiff, ↓reduceIte]
      rw [upd_at]
      split
      · rename_i q; rw [q]
      · exact hc i (by omega))
    rw [hz] at f1
    refine ⟨M', ?_, (k_sa (by decide)).tr f2, f3⟩
    rw [← f1]
    unfold f_X12_triesJobs_33
    simp (disch := first | (with_reducible assumption) | (simp only [oi_si, oi_sl, oi_sa, oi_sm, oi_sv, oi_sq, ol_si, ol_sl, ol_sa, ol_sm, ol_sv, ol_sq, oa_si, oa_sl, oa_sa, oa_sm, oa_sv, oa_sq, om_si, om_sl, om_sa, om_sm, om_sv, om_sq, ov_si, ov_sl, ov_sa, ov_sm, ov_sv, ov_sq, oq_si, oq_sl, oq_sa, oq_sm, oq_sv, oq_sq, Nat.reduceEqDiff, ↓reduceIte]; done) | omega | (exact ixn (by omega) (by omega)) | (exact ixl (by decide) (by decide)) | (simp only [pt_len, pl, z0, z1, z2, z3, z4, z5, z6, z7, z8, z9, z10, z11, z12]; omega)) only [↓gb_m, ↓gc_m, ↓gl_s, ↓gg_m, gb_s, gc_s, gg_t, gqm_0, gqm_1, pt_pt, sa_sa, sm_sm, si_si, qk12, qg12_0, qs12_0, qg12_1, qg12_2, qs12_2, qg12_3, qs12_3, qg12_4, qg12_5, qg12_6, qg12_7, qs12_7, qg12_8, qs12_8, qg12_9, qg12_10, qg12_11, qg12_12, qg12_13, qs12_13, qg12_14, qg12_15, qg12_16, qg12_17, qg12_18, qs12_18, qg12_19, qg12_20, qg12_21, qg12_22, qg12_23, qs12_23, qg12_24, qs12_24, qg12_25, qs12_25, qg12_26, qs12_26, qg12_27, qs12_27, qg12_28, qs12_28, qg12_29, qg12_30, qs12_30, qg12_31, qg12_32, qg12_33, qg12_34, qg12_35, qg12_36, qs12_36, qg12_37, qs12_37, qg12_38, qs12_38, qg12_39, qs12_39, qg12_40, qs12_40, qg12_41, qg12_42, qs12_42, qg12_43, qs12_43, qg12_44, qs12_44, qg12_45, qs12_45, qg12_46, qs12_46, qg12_47, qa12_1, qe12_1, ql12_1, qa12_4, qe12_4, ql12_4, qa12_5, qe12_5, ql12_5, qa12_6, qe12_6, ql12_6, qa12_9, qe12_9, ql12_9, qa12_10, qe12_10, ql12_10, qa12_11, qe12_11, ql12_11, qa12_12, qe12_12, ql12_12, qa12_14, qe12_14, ql12_14, qa12_15, qe12_15, ql12_15, qa12_16, qe12_16, ql12_16, qa12_17, qe12_17, ql12_17, qa12_19, qe12_19, ql12_19, qa12_20, qe12_20, ql12_20, qa12_21, qe12_21, ql12_21, qa12_22, qe12_22, ql12_22, qa12_29, qe12_29, ql12_29, qa12_31, qe12_31, ql12_31, qa12_32, qe12_32, ql12_32, qa12_33, qe12_33, ql12_33, qa12_34, qe12_34, ql12_34, qa12_35, qe12_35, ql12_35, qa12_41, qe12_41, ql12_41, qa12_47, qe12_47, ql12_47, oi_si, oi_sl, oi_sa, oi_sm, oi_sv, oi_sq, ol_si, ol_sl, ol_sa, ol_sm, ol_sv, ol_sq, oa_si, oa_sl, oa_sa, oa_sm, oa_sv, oa_sq, om_si, om_sl, om_sa, om_sm, om_sv, om_sq, ov_si, ov_sl, ov_sa, ov_sm, ov_sv, ov_sq, oq_si, oq_sl, oq_sa, oq_sm, oq_sv, oq_sq, Nat.reduceEqDiff, ↓reduceIte, n_add, n_addl, n_ladd, n_add1, n_mul, n_lmul, n_mull, n_sub, n_subl, n_subm, n_lt, n_le, n_eq, n_ltl, n_llt, n_lel, n_lle, n_eql, n_leq, n_m1, n_m1l, n_lt0, n_ge0, i_okc, i_okl, if_true, if_false, not_true, not_false, Nat.not_lt_zero, Nat.zero_le, b2, gnar_0]
theorem m_triesJ (hF : 80 + 25 ≤ h.length) (hN : 2000 ≤ N) {J : List Tri} (hJ : JOk J) : ∀ (n d : Nat) (row : List Nat) (b : Nat × List Nat) (M : OD), row.length + n = J.length → n < d → (∀ j, j ∈ row → j < J.length) → b.1 ≤ 100000000 → segT 473 (oa M 17) J → RowAt M 32 row → JB b M →
    ∃ M', g_gJ N d 80 (Int32.ofNat row.length) (Int32.ofNat (msk (fun k => row.contains k) 7)) (pt sX12 80 M h) = some (pt sX12 80 M' h) ∧ Keep kJ M M' ∧ RowAt M' 32 row ∧ JB (tryJ J n row b) M' := by
  have hl7 := hJ.1
  intro n
  induction n with
  | zero =>
    intro d row b M hl hd hr hb hS hR hB
    obtain ⟨d, rfl⟩ : ∃ q, d = q + 1 := ⟨d - 1, by omega⟩
    show ∃ M', b_X12_triesJobs N (g_gJ N d) 80 _ _ _ = _ ∧ _
    unfold b_X12_triesJobs
    have hl : row.length = J.length := by omega
    obtain ⟨M1, e1, e2, e3, e4⟩ := m_doneBy (N := N) hF hN hJ (q := pl 80 18) (fld := 32) (by decide) (by decide) (fun M i hi => qa12_32 hF hi) hS hl hr hR
    have dl := doneS_le hJ (row := row) (by omega)
    have e5 : oi M1 37 = Int32.ofNat b.1 := by rw [e2.i (by decide)]; exact hB.1
    have R1 : RowAt M1 32 row := fun i x hx => by rw [e2.a (by decide)]; exact hR i x hx
    unfold tryJ
    by_cases c : doneS J row < b.1
    · have c' : (b.1 ≤ doneS J row) = False := propext ⟨fun h => by omega, False.elim⟩
      obtain ⟨M', f1, f2, f3⟩ := m_copyRow (N := N) hF (g_gJ N d) (row := row) (by omega) row.length 0 N (si M1 37 (Int32.ofNat (doneS J row))) (by omega) (by omega) R1 (fun i hi => by omega)
      have f1 : gi (fun zk zs => f_X12_triesJobs_33 N (g_gJ N d) zk zs.1 zs.2.1 zs.2.2.1 zs.2.2.2) N (80, Int32.ofNat J.length, 0, pt sX12 80 (si M1 37 (Int32.ofNat (doneS J row))) h) = some (pt sX12 80 M' h) := by rw [← hl]; exact f1
      rw [hl]
      simp (disch := first | (with_reducible assumption) | (simp only [oi_si, oi_sl, oi_sa, oi_sm, oi_sv, oi_sq, ol_si, ol_sl, ol_sa, ol_sm, ol_sv, ol_sq, oa_si, oa_sl, oa_sa, oa_sm, oa_sv, oa_sq, om_si, om_sl, om_sa, om_sm, om_sv, om_sq, ov_si, ov_sl, ov_sa, ov_sm, ov_sv, ov_sq, oq_si, oq_sl, oq_sa, oq_sm, oq_sv, oq_sq, Nat.reduceEqDiff, ↓reduceIte]; done) | omega | (exact ixn (by omega) (by omega)) | (exact ixl (by decide) (by decide)) | (simp only [pt_len, pl, z0, z1, z2, z3, z4, z5, z6, z7, z8, z9, z10, z11, z12]; omega)) only [↓gb_m, ↓gc_m, ↓gl_s, ↓gg_m, gb_s, gc_s, gg_t, gqm_0, gqm_1, pt_pt, sa_sa, sm_sm, si_si, qk12, qg12_0, qs12_0, qg12_1, qg12_2, qs12_2, qg12_3, qs12_3, qg12_4, qg12_5, qg12_6, qg12_7, qs12_7, qg12_8, qs12_8, qg12_9, qg12_10, qg12_11, qg12_12, qg12_13, qs12_13, qg12_14, qg12_15, qg12_16, qg12_17, qg12_18, qs12_18, qg12_19, qg12_20, qg12_21, qg12_22, qg12_23, qs12_23, qg12_24, qs12_24, qg12_25, qs12_25, qg12_26, qs12_26, qg12_27, qs12_27, qg12_28, qs12_28, qg12_29, qg12_30, qs12_30, qg12_31, qg12_32, qg12_33, qg12_34, qg12_35, qg12_36, qs12_36, qg12_37, qs12_37, qg12_38, qs12_38, qg12_39, qs12_39, qg12_40, qs12_40, qg12_41, qg12_42, qs12_42, qg12_43, qs12_43, qg12_44, qs12_44, qg12_45, qs12_45, qg12_46, qs12_46, qg12_47, qa12_1, qe12_1, ql12_1, qa12_4, qe12_4, ql12_4, qa12_5, qe12_5, ql12_5, qa12_6, qe12_6, ql12_6, qa12_9, qe12_9, ql12_9, qa12_10, qe12_10, ql12_10, qa12_11, qe12_11, ql12_11, qa12_12, qe12_12, ql12_12, qa12_14, qe12_14, ql12_14, qa12_15, qe12_15, ql12_15, qa12_16, qe12_16, ql12_16, qa12_17, qe12_17, ql12_17, qa12_19, qe12_19, ql12_19, qa12_20, qe12_20, ql12_20, qa12_21, qe12_21, ql12_21, qa12_22, qe12_22, ql12_22, qa12_29, qe12_29, ql12_29, qa12_31, qe12_31, ql12_31, qa12_32, qe12_32, ql12_32, qa12_33, qe12_33, ql12_33, qa12_34, qe12_34, ql12_34, qa12_35, qe12_35, ql12_35, qa12_41, qe12_41, ql12_41, qa12_47, qe12_47, ql12_47, oi_si, oi_sl, oi_sa, oi_sm, oi_sv, oi_sq, ol_si, ol_sl, ol_sa, ol_sm, ol_sv, ol_sq, oa_si, oa_sl, oa_sa, oa_sm, oa_sv, oa_sq, om_si, om_sl, om_sa, om_sm, om_sv, om_sq, ov_si, ov_sl, ov_sa, ov_sm, ov_sv, ov_sq, oq_si, oq_sl, oq_sa, oq_sm, oq_sv, oq_sq, Nat.reduceEqDiff, ↓reduceIte, n_add, n_addl, n_ladd, n_add1, n_mul, n_lmul, n_mull, n_sub, n_subl, n_subm, n_lt, n_le, n_eq, n_ltl, n_llt, n_lel, n_lle, n_eql, n_leq, n_m1, n_m1l, n_lt0, n_ge0, i_okc, i_okl, if_true, if_false, not_true, not_false, Nat.not_lt_zero, Nat.zero_le, m_jobs hF hS, e1, e5, c', f1]
      refine ⟨M', rfl, ?_, ?_, ?_⟩
      · exact (e2.up (by decide)).tr ((k_si (by decide)).tr (f2.up (by decide)))
      · intro i x hx
        rw [f2.a (by decide)]
        exact R1 i x hx
      · rw [if_pos c]
        refine ⟨?_, f3⟩
        rw [f2.i (by decide)]
        simp only [oi_si, oi_sl, oi_sa, oi_sm, oi_sv, oi_sq, ol_si, ol_sl, ol_sa, ol_sm, ol_sv, ol_sq, oa_si, oa_sl, oa_sa, oa_sm, oa_sv, oa_sq, om_si, om_sl, om_sa, om_sm, om_sv, om_sq, ov_si, ov_sl, ov_sa, ov_sm, ov_sv, ov_sq, oq_si, oq_sl, oq_sa, oq_sm, oq_sv, oq_sq, Nat.reduceEqDiff, ↓reduceIte]
    · have c' : (b.1 ≤ doneS J row) = True := propext ⟨fun h => trivial, fun _ => by omega⟩
      unfold f_X12_triesJobs_59
      rw [hl]
      simp (disch := first | (with_reducible assumption) | (simp only [oi_si, oi_sl, oi_sa, oi_sm, oi_sv, oi_sq, ol_si, ol_sl, ol_sa, ol_sm, ol_sv, ol_sq, oa_si, oa_sl, oa_sa, oa_sm, oa_sv, oa_sq, om_si, om_sl, om_sa, om_sm, om_sv, om_sq, ov_si, ov_sl, ov_sa, ov_sm, ov_sv, ov_sq, oq_si, oq_sl, oq_sa, oq_sm, oq_sv, oq_sq, Nat.reduceEqDiff, ↓reduceIte]; done) | omega | (exact ixn (by omega) (by omega)) | (exact ixl (by decide) (by decide)) | (simp only [pt_len, pl, z0, z1, z2, z3, z4, z5, z6, z7, z8, z9, z10, z11, z12]; omega)) only [↓gb_m, ↓gc_m, ↓gl_s, ↓gg_m, gb_s, gc_s, gg_t, gqm_0, gqm_1, pt_pt, sa_sa, sm_sm, si_si, qk12, qg12_0, qs12_0, qg12_1, qg12_2, qs12_2, qg12_3, qs12_3, qg12_4, qg12_5, qg12_6, qg12_7, qs12_7, qg12_8, qs12_8, qg12_9, qg12_10, qg12_11, qg12_12, qg12_13, qs12_13, qg12_14, qg12_15, qg12_16, qg12_17, qg12_18, qs12_18, qg12_19, qg12_20, qg12_21, qg12_22, qg12_23, qs12_23, qg12_24, qs12_24, qg12_25, qs12_25, qg12_26, qs12_26, qg12_27, qs12_27, qg12_28, qs12_28, qg12_29, qg12_30, qs12_30, qg12_31, qg12_32, qg12_33, qg12_34, qg12_35, qg12_36, qs12_36, qg12_37, qs12_37, qg12_38, qs12_38, qg12_39, qs12_39, qg12_40, qs12_40, qg12_41, qg12_42, qs12_42, qg12_43, qs12_43, qg12_44, qs12_44, qg12_45, qs12_45, qg12_46, qs12_46, qg12_47, qa12_1, qe12_1, ql12_1, qa12_4, qe12_4, ql12_4, qa12_5, qe12_5, ql12_5, qa12_6, qe12_6, ql12_6, qa12_9, qe12_9, ql12_9, qa12_10, qe12_10, ql12_10, qa12_11, qe12_11, ql12_11, qa12_12, qe12_12, ql12_12, qa12_14, qe12_14, ql12_14, qa12_15, qe12_15, ql12_15, qa12_16, qe12_16, ql12_16, qa12_17, qe12_17, ql12_17, qa12_19, qe12_19, ql12_19, qa12_20, qe12_20, ql12_20, qa12_21, qe12_21, ql12_21, qa12_22, qe12_22, ql12_22, qa12_29, qe12_29, ql12_29, qa12_31, qe12_31, ql12_31, qa12_32, qe12_32, ql12_32, qa12_33, qe12_33, ql12_33, qa12_34, qe12_34, ql12_34, qa12_35, qe12_35, ql12_35, qa12_41, qe12_41, ql12_41, qa12_47, qe12_47, ql12_47, oi_si, oi_sl, oi_sa, oi_sm, oi_sv, oi_sq, ol_si, ol_sl, ol_sa, ol_sm, ol_sv, ol_sq, oa_si, oa_sl, oa_sa, oa_sm, oa_sv, oa_sq, om_si, om_sl, om_sa, om_sm, om_sv, om_sq, ov_si, ov_sl, ov_sa, ov_sm, ov_sv, ov_sq, oq_si, oq_sl, oq_sa, oq_sm, oq_sv, oq_sq, Nat.reduceEqDiff, ↓reduceIte, n_add, n_addl, n_ladd, n_add1, n_mul, n_lmul, n_mull, n_sub, n_subl, n_subm, n_lt, n_le, n_eq, n_ltl, n_llt, n_lel, n_lle, n_eql, n_leq, n_m1, n_m1l, n_lt0, n_ge0, i_okc, i_okl, if_true, if_false, not_true, not_false, Nat.not_lt_zero, Nat.zero_le, m_jobs hF hS, e1, e5, c']
      refine ⟨M1, rfl, e2.up (by decide), R1, ?_⟩
      rw [if_neg c]
      refine ⟨e5, fun i x hx => ?_⟩
      rw [e2.a (by decide)]
      exact hB.2 i x hx
  | succ n ih =>
    intro d row b M hl hd hr hb hS hR hB
    obtain ⟨d, rfl⟩ : ∃ q, d = q + 1 := ⟨d - 1, by omega⟩
    show ∃ M', b_X12_triesJobs N (g_gJ N d) 80 _ _ _ = _ ∧ _
    have key : ∀ c j m M b, j + c = J.length → c < m → b.1 ≤ 100000000 → segT 473 (oa M 17) J → RowAt M 32 row → JB b M → ∃ M', gi (fun zk zs => f_X12_triesJobs_62 N (g_gJ N d) zk zs.1 zs.2.1 zs.2.2.1 zs.2.2.2.1 zs.2.2.2.2) m (80, Int32.ofNat row.length, Int32.ofNat (msk (fun k => row.contains k) 7), Int32.ofNat j, pt sX12 80 M h) = some (pt sX12 80 M' h) ∧ Keep kJ M M' ∧ RowAt M' 32 row ∧ JB (((List.range J.length).drop j).foldl (fun b j => if row.contains j then b else tryJ J n (row ++ [j]) b) b) M' := by
      intro c
      induction c with
      | zero =>
        intro j m M b hj hm hb hS hR hB
        obtain ⟨m, rfl⟩ : ∃ k, m = k + 1 := ⟨m - 1, by omega⟩
        rw [gi_1]
        generalize hz : gi _ m = zk
        dsimp only
        have hj : j = J.length := by omega
        subst hj
        unfold f_X12_triesJobs_62
        simp (disch := first | (with_reducible assumption) | (simp only [oi_si, oi_sl, oi_sa, oi_sm, oi_sv, oi_sq, ol_si, ol_sl, ol_sa, ol_sm, ol_sv, ol_sq, oa_si, oa_sl, oa_sa, oa_sm, oa_sv, oa_sq, om_si, om_sl, om_sa, om_sm, om_sv, om_sq, ov_si, ov_sl, ov_sa, ov_sm, ov_sv, ov_sq, oq_si, oq_sl, oq_sa, oq_sm, oq_sv, oq_sq, Nat.reduceEqDiff, ↓reduceIte]; done) | omega | (exact ixn (by omega) (by omega)) | (exact ixl (by decide) (by decide)) | (simp only [pt_len, pl, z0, z1, z2, z3, z4, z5, z6, z7, z8, z9, z10, z11, z12]; omega)) only [↓gb_m, ↓gc_m, ↓gl_s, ↓gg_m, gb_s, gc_s, gg_t, gqm_0, gqm_1, pt_pt, sa_sa, sm_sm, si_si, qk12, qg12_0, qs12_0, qg12_1, qg12_2, qs12_2, qg12_3, qs12_3, qg12_4, qg12_5, qg12_6, qg12_7, qs12_7, qg12_8, qs12_8, qg12_9, qg12_10, qg12_11, qg12_12, qg12_13, qs12_13, qg12_14, qg12_15, qg12_16, qg12_17, qg12_18, qs12_18, qg12_19, qg12_20, qg12_21, qg12_22, qg12_23, qs12_23, qg12_24, qs12_24, qg12_25, qs12_25, qg12_26, qs12_26, qg12_27, qs12_27, qg12_28, qs12_28, qg12_29, qg12_30, qs12_30, qg12_31, qg12_32, qg12_33, qg12_34, qg12_35, qg12_36, qs12_36, qg12_37, qs12_37, qg12_38, qs12_38, qg12_39, qs12_39, qg12_40, qs12_40, qg12_41, qg12_42, qs12_42, qg12_43, qs12_43, qg12_44, qs12_44, qg12_45, qs12_45, qg12_46, qs12_46, qg12_47, qa12_1, qe12_1, ql12_1, qa12_4, qe12_4, ql12_4, qa12_5, qe12_5, ql12_5, qa12_6, qe12_6, ql12_6, qa12_9, qe12_9, ql12_9, qa12_10, qe12_10, ql12_10, qa12_11, qe12_11, ql12_11, qa12_12, qe12_12, ql12_12, qa12_14, qe12_14, ql12_14, qa12_15, qe12_15, ql12_15, qa12_16, qe12_16, ql12_16, qa12_17, qe12_17, ql12_17, qa12_19, qe12_19, ql12_19, qa12_20, qe12_20, ql12_20, qa12_21, qe12_21, ql12_21, qa12_22, qe12_22, ql12_22, qa12_29, qe12_29, ql12_29, qa12_31, qe12_31, ql12_31, qa12_32, qe12_32, ql12_32, qa12_33, qe12_33, ql12_33, qa12_34, qe12_34, ql12_34, qa12_35, qe12_35, ql12_35, qa12_41, qe12_41, ql12_41, qa12_47, qe12_47, ql12_47, oi_si, oi_sl, oi_sa, oi_sm, oi_sv, oi_sq, ol_si, ol_sl, ol_sa, ol_sm, ol_sv, ol_sq, oa_si, oa_sl, oa_sa, oa_sm, oa_sv, oa_sq, om_si, om_sl, om_sa, om_sm, om_sv, om_sq, ov_si, ov_sl, ov_sa, ov_sm, ov_sv, ov_sq, oq_si, oq_sl, oq_sa, oq_sm, oq_sv, oq_sq, Nat.reduceEqDiff, ↓reduceIte, n_add, n_addl, n_ladd, n_add1, n_mul, n_lmul, n_mull, n_sub, n_subl, n_subm, n_lt, n_le, n_eq, n_ltl, n_llt, n_lel, n_lle, n_eql, n_leq, n_m1, n_m1l, n_lt0, n_ge0, i_okc, i_okl, if_true, if_false, not_true, not_false, Nat.not_lt_zero, Nat.zero_le, m_jobs hF hS, Nat.le_refl]
        refine ⟨M, rfl, Keep.rf, hR, ?_⟩
        rw [List.drop_of_length_le (by rw [List.length_range]; exact Nat.le_refl _)]
        exact hB
      | succ c ihc =>
        intro j m M b hj hm hb hS hR hB
        obtain ⟨m, rfl⟩ : ∃ k, m = k + 1 := ⟨m - 1, by omega⟩
        rw [gi_1]
        generalize hz : gi _ m = zk
        dsimp only
        have b2 : (J.length ≤ j) = False := propext ⟨fun h => by omega, False.elim⟩
        have dr : (List.range J.length).drop j = j :: (List.range J.length).drop (j + 1) := by
          rw [List.drop_eq_getElem_cons (by rw [List.length_range]; omega), List.getElem_range]
        have n1 : (Int32.ofNat (msk (fun k => row.contains k) 7) >>> (Int32.ofNat j &&& 31)) &&& 1 = eB (decide (j < 7) && row.contains j) := msk_in _ (by omega)
        have j7 : decide (j < 7) = true := decide_eq_true (by omega)
        rw [j7, Bool.true_and] at n1
        rw [dr, List.foldl_cons]
        unfold f_X12_triesJobs_62 f_X12_triesJobs_97
        cases cj : row.contains j with
        | true =>
          rw [cj] at n1
          obtain ⟨M', f1, f2, f3, f4⟩ := ihc (j + 1) m M b (by omega) (by omega) hb hS hR hB
          rw [hz] at f1
          refine ⟨M', ?_, f2, f3, ?_⟩
          · rw [← f1]
            simp (disch := first | (with_reducible assumption) | (simp only [oi_si, oi_sl, oi_sa, oi_sm, oi_sv, oi_sq, ol_si, ol_sl, ol_sa, ol_sm, ol_sv, ol_sq, oa_si, oa_sl, oa_sa, oa_sm, oa_sv, oa_sq, om_si, om_sl, om_sa, om_sm, om_sv, om_sq, ov_si, ov_sl, ov_sa, ov_sm, ov_sv, ov_sq, oq_si, oq_sl, oq_sa, oq_sm, oq_sv, oq_sq, Nat.reduceEqDiff, ↓reduceIte]; done) | omega | (exact ixn (by omega) (by omega)) | (exact ixl (by decide) (by decide)) | (simp only [pt_len, pl, z0, z1, z2, z3, z4, z5, z6, z7, z8, z9, z10, z11, z12]; omega)) only [↓gb_m, ↓gc_m, ↓gl_s, ↓gg_m, gb_s, gc_s, gg_t, gqm_0, gqm_1, pt_pt, sa_sa, sm_sm, si_si, qk12, qg12_0, qs12_0, qg12_1, qg12_2, qs12_2, qg12_3, qs12_3, qg12_4, qg12_5, qg12_6, qg12_7, qs12_7, qg12_8, qs12_8, qg12_9, qg12_10, qg12_11, qg12_12, qg12_13, qs12_13, qg12_14, qg12_15, qg12_16, qg12_17, qg12_18, qs12_18, qg12_19, qg12_20, qg12_21, qg12_22, qg12_23, qs12_23, qg12_24, qs12_24, qg12_25, qs12_25, qg12_26, qs12_26, qg12_27, qs12_27, qg12_28, qs12_28, qg12_29, qg12_30, qs12_30, qg12_31, qg12_32, qg12_33, qg12_34, qg12_35, qg12_36, qs12_36, qg12_37, qs12_37, qg12_38, qs12_38, qg12_39, qs12_39, qg12_40, qs12_40, qg12_41, qg12_42, qs12_42, qg12_43, qs12_43, qg12_44, qs12_44, qg12_45, qs12_45, qg12_46, qs12_46, qg12_47, qa12_1, qe12_1, ql12_1, qa12_4, qe12_4, ql12_4, qa12_5, qe12_5, ql12_5, qa12_6, qe12_6, ql12_6, qa12_9, qe12_9, ql12_9, qa12_10, qe12_10, ql12_10, qa12_11, qe12_11, ql12_11, qa12_12, qe12_12, ql12_12, qa12_14, qe12_14, ql12_14, qa12_15, qe12_15, ql12_15, qa12_16, qe12_16, ql12_16, qa12_17, qe12_17, ql12_17, qa12_19, qe12_19, ql12_19, qa12_20, qe12_20, ql12_20, qa12_21, qe12_21, ql12_21, qa12_22, qe12_22, ql12_22, qa12_29, qe12_29, ql12_29, qa12_31, qe12_31, ql12_31, qa12_32, qe12_32, ql12_32, qa12_33, qe12_33, ql12_33, qa12_34, qe12_34, ql12_34, qa12_35, qe12_35, ql12_35, qa12_41, qe12_41, ql12_41, qa12_47, qe12_47, ql12_47, oi_si, oi_sl, oi_sa, oi_sm, oi_sv, oi_sq, ol_si, ol_sl, ol_sa, ol_sm, ol_sv, ol_sq, oa_si, oa_sl, oa_sa, oa_sm, oa_sv, oa_sq, om_si, om_sl, om_sa, om_sm, om_sv, om_sq, ov_si, ov_sl, ov_sa, ov_sm, ov_sv, ov_sq, oq_si, oq_sl, oq_sa, oq_sm, oq_sv, oq_sq, Nat.reduceEqDiff, ↓reduceIte, n_add, n_addl, n_ladd, n_add1, n_mul, n_lmul, n_mull, n_sub, n_subl, n_subm, n_lt, n_le, n_eq, n_ltl, n_llt, n_lel, n_lle, n_eql, n_leq, n_m1, n_m1l, n_lt0, n_ge0, i_okc, i_okl, if_true, if_false, not_true, not_false, Nat.not_lt_zero, Nat.zero_le, m_jobs hF hS, b2, n1, eB0, Bool.true_eq_false]
          · rw [if_pos rfl]
            exact f4
        | false =>
          rw [cj] at n1
          have s1 := shl1 j (by omega)
          have p1 := msk_push (row := row) (j := j) (n := 7) (by omega) (by omega)
          have kk : Keep kJ M (sa M 32 (upd (oa M 32) row.length (Int32.ofNat j))) := k_sa (by decide)
          obtain ⟨M1, e1, e2, e3, e4⟩ := ih d (row ++ [j]) b (sa M 32 (upd (oa M 32) row.length (Int32.ofNat j))) (by rw [List.length_append]; show row.length + 1 + n = _; omega) (by omega) (by
            intro x hx
            rcases List.mem_append.mp hx with z | z
            · exact hr x z
            · rw [List.mem_singleton.mp z]; omega) hb (by rw [kk.a (by decide)]; exact hS) (by
            intro i x hx
            simp only [oi_si, oi_sl, oi_sa, oi_sm, oi_sv, oi_sq, ol_si, ol_sl, ol_sa, ol_sm, ol_sv, ol_sq, oa_si, oa_sl, oa_sa, oa_sm, oa_sv, oa_sq, om_si, om_sl, om_sa, om_sm, om_sv, om_sq, ov_si, ov_sl, ov_sa, ov_sm, ov_sv, ov_sq, oq_si, oq_sl, oq_sa, oq_sm, oq_sv, oq_sq, Nat.reduceEqDiff, ↓reduceIte]
            rw [upd_at]
            rcases Nat.lt_or_ge i row.length with z | z
            · rw [if_neg (by omega)]
              rw [List.getElem?_append_left z] at hx
              exact hR i x hx
            · have := ln_of hx
              rw [List.length_append] at this
              have this : i < row.length + 1 := this
              have hi : i = row.length := by omega
              subst hi
              rw [if_pos rfl]
              rw [List.getElem?_append_right (Nat.le_refl _), Nat.sub_self] at hx
              cases hx
              rfl) ⟨hB.1, hB.2⟩
          rw [List.length_append, List.length_singleton] at e1
          have e2' := kk.tr e2
          obtain ⟨M', f1, f2, f3, f4⟩ := ihc (j + 1) m M1 (tryJ J n (row ++ [j]) b) (by omega) (by omega) (Nat.le_trans (tryJ_le _ _ _) hb) (by rw [e2'.a (by decide)]; exact hS) (by
            intro i x hx
            exact e3 i x (by rw [List.getElem?_append_left (ln_of hx)]; exact hx)) e4
          rw [hz] at f1
          refine ⟨M', ?_, e2'.tr f2, f3, ?_⟩
          · rw [← f1]
            simp (disch := first | (with_reducible assumption) | (simp only [oi_si, oi_sl, oi_sa, oi_sm, oi_sv, oi_sq, ol_si, ol_sl, ol_sa, ol_sm, ol_sv, ol_sq, oa_si, oa_sl, oa_sa, oa_sm, oa_sv, oa_sq, om_si, om_sl, om_sa, om_sm, om_sv, om_sq, ov_si, ov_sl, ov_sa, ov_sm, ov_sv, ov_sq, oq_si, oq_sl, oq_sa, oq_sm, oq_sv, oq_sq, Nat.reduceEqDiff, ↓reduceIte]; done) | omega | (exact ixn (by omega) (by omega)) | (exact ixl (by decide) (by decide)) | (simp only [pt_len, pl, z0, z1, z2, z3, z4, z5, z6, z7, z8, z9, z10, z11, z12]; omega)) only [↓gb_m, ↓gc_m, ↓gl_s, ↓gg_m, gb_s, gc_s, gg_t, gqm_0, gqm_1, pt_pt, sa_sa, sm_sm, si_si, qk12, qg12_0, qs12_0, qg12_1, qg12_2, qs12_2, qg12_3, qs12_3, qg12_4, qg12_5, qg12_6, qg12_7, qs12_7, qg12_8, qs12_8, qg12_9, qg12_10, qg12_11, qg12_12, qg12_13, qs12_13, qg12_14, qg12_15, qg12_16, qg12_17, qg12_18, qs12_18, qg12_19, qg12_20, qg12_21, qg12_22, qg12_23, qs12_23, qg12_24, qs12_24, qg12_25, qs12_25, qg12_26, qs12_26, qg12_27, qs12_27, qg12_28, qs12_28, qg12_29, qg12_30, qs12_30, qg12_31, qg12_32, qg12_33, qg12_34, qg12_35, qg12_36, qs12_36, qg12_37, qs12_37, qg12_38, qs12_38, qg12_39, qs12_39, qg12_40, qs12_40, qg12_41, qg12_42, qs12_42, qg12_43, qs12_43, qg12_44, qs12_44, qg12_45, qs12_45, qg12_46, qs12_46, qg12_47, qa12_1, qe12_1, ql12_1, qa12_4, qe12_4, ql12_4, qa12_5, qe12_5, ql12_5, qa12_6, qe12_6, ql12_6, qa12_9, qe12_9, ql12_9, qa12_10, qe12_10, ql12_10, qa12_11, qe12_11, ql12_11, qa12_12, qe12_12, ql12_12, qa12_14, qe12_14, ql12_14, qa12_15, qe12_15, ql12_15, qa12_16, qe12_16, ql12_16, qa12_17, qe12_17, ql12_17, qa12_19, qe12_19, ql12_19, qa12_20, qe12_20, ql12_20, qa12_21, qe12_21, ql12_21, qa12_22, qe12_22, ql12_22, qa12_29, qe12_29, ql12_29, qa12_31, qe12_31, ql12_31, qa12_32, qe12_32, ql12_32, qa12_33, qe12_33, ql12_33, qa12_34, qe12_34, ql12_34, qa12_35, qe12_35, ql12_35, qa12_41, qe12_41, ql12_41, qa12_47, qe12_47, ql12_47, oi_si, oi_sl, oi_sa, oi_sm, oi_sv, oi_sq, ol_si, ol_sl, ol_sa, ol_sm, ol_sv, ol_sq, oa_si, oa_sl, oa_sa, oa_sm, oa_sv, oa_sq, om_si, om_sl, om_sa, om_sm, om_sv, om_sq, ov_si, ov_sl, ov_sa, ov_sm, ov_sv, ov_sq, oq_si, oq_sl, oq_sa, oq_sm, oq_sv, oq_sq, Nat.reduceEqDiff, ↓reduceIte, n_add, n_addl, n_ladd, n_add1, n_mul, n_lmul, n_mull, n_sub, n_subl, n_subm, n_lt, n_le, n_eq, n_ltl, n_llt, n_lel, n_lle, n_eql, n_leq, n_m1, n_m1l, n_lt0, n_ge0, i_okc, i_okl, if_true, if_false, not_true, not_false, Nat.not_lt_zero, Nat.zero_le, m_jobs hF hS, b2, n1, eB0, s1, p1, gnar_0, e1]
          · rw [if_neg (by simp)]
            exact f4
    obtain ⟨M', f1, f2, f3, f4⟩ := key J.length 0 N M b (by omega) (by omega) hb hS hR hB
    refine ⟨M', ?_, f2, f3, ?_⟩
    · unfold b_X12_triesJobs
      have c : (row.length = J.length) = False := propext ⟨fun h => by omega, False.elim⟩
      simp (disch := first | (with_reducible assumption) | (simp only [oi_si, oi_sl, oi_sa, oi_sm, oi_sv, oi_sq, ol_si, ol_sl, ol_sa, ol_sm, ol_sv, ol_sq, oa_si, oa_sl, oa_sa, oa_sm, oa_sv, oa_sq, om_si, om_sl, om_sa, om_sm, om_sv, om_sq, ov_si, ov_sl, ov_sa, ov_sm, ov_sv, ov_sq, oq_si, oq_sl, oq_sa, oq_sm, oq_sv, oq_sq, Nat.reduceEqDiff, ↓reduceIte]; done) | omega | (exact ixn (by omega) (by omega)) | (exact ixl (by decide) (by decide)) | (simp only [pt_len, pl, z0, z1, z2, z3, z4, z5, z6, z7, z8, z9, z10, z11, z12]; omega)) only [↓gb_m, ↓gc_m, ↓gl_s, ↓gg_m, gb_s, gc_s, gg_t, gqm_0, gqm_1, pt_pt, sa_sa, sm_sm, si_si, qk12, qg12_0, qs12_0, qg12_1, qg12_2, qs12_2, qg12_3, qs12_3, qg12_4, qg12_5, qg12_6, qg12_7, qs12_7, qg12_8, qs12_8, qg12_9, qg12_10, qg12_11, qg12_12, qg12_13, qs12_13, qg12_14, qg12_15, qg12_16, qg12_17, qg12_18, qs12_18, qg12_19, qg12_20, qg12_21, qg12_22, qg12_23, qs12_23, qg12_24, qs12_24, qg12_25, qs12_25, qg12_26, qs12_26, qg12_27, qs12_27, qg12_28, qs12_28, qg12_29, qg12_30, qs12_30, qg12_31, qg12_32, qg12_33, qg12_34, qg12_35, qg12_36, qs12_36, qg12_37, qs12_37, qg12_38, qs12_38, qg12_39, qs12_39, qg12_40, qs12_40, qg12_41, qg12_42, qs12_42, qg12_43, qs12_43, qg12_44, qs12_44, qg12_45, qs12_45, qg12_46, qs12_46, qg12_47, qa12_1, qe12_1, ql12_1, qa12_4, qe12_4, ql12_4, qa12_5, qe12_5, ql12_5, qa12_6, qe12_6, ql12_6, qa12_9, qe12_9, ql12_9, qa12_10, qe12_10, ql12_10, qa12_11, qe12_11, ql12_11, qa12_12, qe12_12, ql12_12, qa12_14, qe12_14, ql12_14, qa12_15, qe12_15, ql12_15, qa12_16, qe12_16, ql12_16, qa12_17, qe12_17, ql12_17, qa12_19, qe12_19, ql12_19, qa12_20, qe12_20, ql12_20, qa12_21, qe12_21, ql12_21, qa12_22, qe12_22, ql12_22, qa12_29, qe12_29, ql12_29, qa12_31, qe12_31, ql12_31, qa12_32, qe12_32, ql12_32, qa12_33, qe12_33, ql12_33, qa12_34, qe12_34, ql12_34, qa12_35, qe12_35, ql12_35, qa12_41, qe12_41, ql12_41, qa12_47, qe12_47, ql12_47, oi_si, oi_sl, oi_sa, oi_sm, oi_sv, oi_sq, ol_si, ol_sl, ol_sa, ol_sm, ol_sv, ol_sq, oa_si, oa_sl, oa_sa, oa_sm, oa_sv, oa_sq, om_si, om_sl, om_sa, om_sm, om_sv, om_sq, ov_si, ov_sl, ov_sa, ov_sm, ov_sv, ov_sq, oq_si, oq_sl, oq_sa, oq_sm, oq_sv, oq_sq, Nat.reduceEqDiff, ↓reduceIte, n_add, n_addl, n_ladd, n_add1, n_mul, n_lmul, n_mull, n_sub, n_subl, n_subm, n_lt, n_le, n_eq, n_ltl, n_llt, n_lel, n_lle, n_eql, n_leq, n_m1, n_m1l, n_lt0, n_ge0, i_okc, i_okl, if_true, if_false, not_true, not_false, Nat.not_lt_zero, Nat.zero_le, m_jobs hF hS, c]
      exact f1
    · exact f4
end MJobs

