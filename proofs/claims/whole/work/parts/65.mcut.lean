/-! The model: the tape cut into tokens -/
theorem tw_at {p : Nat → Bool} : ∀ l : List Nat, (∀ j, j < (l.takeWhile p).length → ∃ c, l[j]? = some c ∧ (l.takeWhile p)[j]? = some c ∧ p c = true) ∧ (∀ c, l[(l.takeWhile p).length]? = some c → p c = false) ∧ (l.takeWhile p).length ≤ l.length := by
  intro l
  induction l with
  | nil => exact ⟨fun j h => absurd h (by simp), fun c h => (by cases h), Nat.le_refl _⟩
  | cons x l ih =>
    rw [List.takeWhile_cons]
    cases hp : p x with
    | false =>
      refine ⟨fun j h => absurd h (by simp), fun c h => ?_, by simp⟩
      cases h
      exact hp
    | true =>
      obtain ⟨a, b, c⟩ := ih
      simp only [if_true]
      refine ⟨fun j h => ?_, fun y hy => b y hy, ?_⟩
      · cases j with
        | zero => exact ⟨x, rfl, rfl, hp⟩
        | succ j => exact a j (by rw [List.length_cons] at h; omega)
      · rw [List.length_cons, List.length_cons]
        omega
theorem tkz_c (n p c : Nat) (cs : List Nat) : tkz (n + 1) p (c :: cs) = if isB c then tkz n (p + 1) cs
      else if isL c then (if ((c :: cs).takeWhile isL).length ≤ 8 then 1 else 4, p, (c :: cs).takeWhile isL) :: tkz n (p + ((c :: cs).takeWhile isL).length) ((c :: cs).drop ((c :: cs).takeWhile isL).length)
      else if isD c then (if ((c :: cs).takeWhile isD).length ≤ 4 then 2 else 4, p, (c :: cs).takeWhile isD) :: tkz n (p + ((c :: cs).takeWhile isD).length) ((c :: cs).drop ((c :: cs).takeWhile isD).length)
      else (if isS c then 3 else 4, p, [c]) :: tkz n (p + 1) cs := rfl
theorem tkz_ok : ∀ n p l, l.length ≤ n → p + l.length ≤ 1000 → TV (tkz n p l) ∧ (tkz n p l).length ≤ l.length + 1 := by
  have e0 : ∀ p, p ≤ 1000 → TV [(0, p, [])] := by
    intro p hp
    refine ⟨[], (0, p, []), rfl, rfl, fun x hx => (by cases hx), fun x hx => ?_⟩
    rw [List.mem_singleton.mp hx]
    exact ⟨Nat.zero_le _, fun h => (by cases h), fun h => (by cases h), fun h => (by cases h), hp⟩
  have cons : ∀ (x : Tok) ts, x.1 ≠ 0 → tkOk x → TV ts → TV (x :: ts) := by
    rintro x ts h1 h2 ⟨b, e, rfl, h3, h4, h5⟩
    refine ⟨x :: b, e, rfl, h3, fun y hy => ?_, fun y hy => ?_⟩
    · rcases List.mem_cons.mp hy with z | z
      · rw [z]; exact h1
      · exact h4 y z
    · rcases List.mem_cons.mp hy with z | z
      · rw [z]; exact h2
      · exact h5 y z
  intro n
  induction n with
  | zero =>
    intro p l h1 h2
    exact ⟨e0 p (by omega), by show 1 ≤ _; omega⟩
  | succ n ih =>
    intro p l h1 h2
    match l, h1, h2 with
    | [], h1, h2 => exact ⟨e0 p (by simpa using h2), Nat.le_refl _⟩
    | c :: cs, h1, h2 =>
      rw [List.length_cons] at h1 h2 ⊢
      unfold tkz
      dsimp only
      by_cases q1 : isB c = true
      · rw [if_pos q1]
        obtain ⟨a, b⟩ := ih (p + 1) cs (by omega) (by omega)
        exact ⟨a, by omega⟩
      · rw [if_neg q1]
        by_cases q2 : isL c = true
        · rw [if_pos q2]
          obtain ⟨w1, w2, w3⟩ := tw_at (p := isL) (c :: cs)
          have e1 : (c :: cs).takeWhile isL ≠ [] := by rw [List.takeWhile_cons, q2]; simp
          have e2 : 0 < ((c :: cs).takeWhile isL).length := List.length_pos_iff.mpr e1
          rw [List.length_cons] at w3
          obtain ⟨a, b⟩ := ih (p + ((c :: cs).takeWhile isL).length) ((c :: cs).drop ((c :: cs).takeWhile isL).length) (by rw [List.length_drop, List.length_cons]; omega) (by rw [List.length_drop, List.length_cons]; omega)
          rw [List.length_drop, List.length_cons] at b
          refine ⟨cons _ _ ?_ ⟨?_, ?_, ?_, ?_, ?_⟩ a, ?_⟩
          · show (if _ then 1 else 4) ≠ 0
            split <;> decide
          · show (if _ then 1 else 4) ≤ 4
            split <;> decide
          · intro hk
            have hk : (if ((c :: cs).takeWhile isL).length ≤ 8 then 1 else 4) = 1 := hk
            split at hk
            · rename_i q
              refine ⟨q, e1, fun x hx => ?_⟩
              obtain ⟨j, hj⟩ := List.mem_iff_getElem?.mp hx
              obtain ⟨y, _, y2, y3⟩ := w1 j (ln_of hj)
              rw [y2] at hj
              cases hj
              unfold isL at y3
              simpa using y3
            · cases hk
          · intro hk
            have hk : (if ((c :: cs).takeWhile isL).length ≤ 8 then 1 else 4) = 2 := hk
            split at hk <;> cases hk
          · intro hk
            have hk : (if ((c :: cs).takeWhile isL).length ≤ 8 then 1 else 4) = 3 := hk
            split at hk <;> cases hk
          · show p ≤ 1000
            omega
          · rw [List.length_cons]
            omega
        · rw [if_neg q2]
          by_cases q3 : isD c = true
          · rw [if_pos q3]
            obtain ⟨w1, w2, w3⟩ := tw_at (p := isD) (c :: cs)
            have e1 : (c :: cs).takeWhile isD ≠ [] := by rw [List.takeWhile_cons, q3]; simp
            have e2 : 0 < ((c :: cs).takeWhile isD).length := List.length_pos_iff.mpr e1
            rw [List.length_cons] at w3
            obtain ⟨a, b⟩ := ih (p + ((c :: cs).takeWhile isD).length) ((c :: cs).drop ((c :: cs).takeWhile isD).length) (by rw [List.length_drop, List.length_cons]; omega) (by rw [List.length_drop, List.length_cons]; omega)
            rw [List.length_drop, List.length_cons] at b
            refine ⟨cons _ _ ?_ ⟨?_, ?_, ?_, ?_, ?_⟩ a, ?_⟩
            · show (if _ then 2 else 4) ≠ 0
              split <;> decide
            · show (if _ then 2 else 4) ≤ 4
              split <;> decide
            · intro hk
              have hk : (if ((c :: cs).takeWhile isD).length ≤ 4 then 2 else 4) = 1 := hk
              split at hk <;> cases hk
            · intro hk
              have hk : (if ((c :: cs).takeWhile isD).length ≤ 4 then 2 else 4) = 2 := hk
              split at hk
              · rename_i q
                refine ⟨q, fun x hx => ?_⟩
                obtain ⟨j, hj⟩ := List.mem_iff_getElem?.mp hx
                obtain ⟨y, _, y2, y3⟩ := w1 j (ln_of hj)
                rw [y2] at hj
                cases hj
                unfold isD at y3
                simpa using y3
              · cases hk
            · intro hk
              have hk : (if ((c :: cs).takeWhile isD).length ≤ 4 then 2 else 4) = 3 := hk
              split at hk <;> cases hk
            · show p ≤ 1000
              omega
            · rw [List.length_cons]
              omega
          · rw [if_neg q3]
            obtain ⟨a, b⟩ := ih (p + 1) cs (by omega) (by omega)
            refine ⟨cons _ _ ?_ ⟨?_, ?_, ?_, ?_, ?_⟩ a, ?_⟩
            · show (if _ then 3 else 4) ≠ 0
              split <;> decide
            · show (if _ then 3 else 4) ≤ 4
              split <;> decide
            · intro hk
              have hk : (if isS c = true then 3 else 4) = 1 := hk
              split at hk <;> cases hk
            · intro hk
              have hk : (if isS c = true then 3 else 4) = 2 := hk
              split at hk <;> cases hk
            · intro hk
              have hk : (if isS c = true then 3 else 4) = 3 := hk
              split at hk
              · rename_i q
                exact ⟨c, rfl, q⟩
              · cases hk
            · show p ≤ 1000
              omega
            · rw [List.length_cons]
              omega
theorem toks_ok {T : List Nat} (hT : TOk T) : TV (toks T) ∧ (toks T).length ≤ 1001 := by
  have := tkz_ok T.length 0 T (Nat.le_refl _) (by have := hT.1; omega)
  have h2 := hT.1
  exact ⟨this.1, by unfold toks; omega⟩
/-! numbers of 64 bits -/
theorem l_toI {a : Nat} (h : a < 9223372036854775808) : (Int64.ofNat a).toInt = a := by
  rw [Int64.toInt_ofNat']
  show (a : Int).bmod 18446744073709551616 = a
  simp only [Int.bmod]
  omega
theorem i2l {a : Nat} (h : a < 2147483648) : Int32.toInt64 (Int32.ofNat a) = Int64.ofNat a := by
  apply Int64.toInt_inj.mp
  rw [Int32.toInt_toInt64, i_ok h, l_toI (by omega)]
theorem l_mul (a b : Nat) : Int64.ofNat a * Int64.ofNat b = Int64.ofNat (a * b) := by
  apply Int64.toBitVec_inj.mp
  rw [Int64.toBitVec_mul]
  show BitVec.ofNat 64 a * BitVec.ofNat 64 b = BitVec.ofNat 64 (a * b)
  rw [BitVec.ofNat_mul]
theorem l_sub {a b : Nat} (h : b ≤ a) : Int64.ofNat a - Int64.ofNat b = Int64.ofNat (a - b) := by
  have h1 := l_add (a - b) b
  rw [Nat.sub_add_cancel h] at h1
  rw [← h1, Int64.add_sub_cancel]
/-- the tokens as the model has them -/
def RepTok (M : OD) (i : Nat) (x : Tok) : Prop := oa M 4 i = Int32.ofNat x.1 ∧ oa M 5 i = Int32.ofNat x.2.1 ∧ (x.1 = 1 → om M 6 i = Int64.ofNat (v37 x.2.2)) ∧ (x.1 = 2 → om M 6 i = Int64.ofNat (v10 x.2.2)) ∧ (x.1 = 3 → ∀ c, x.2.2 = [c] → om M 6 i = Int64.ofNat c)
def RTs (M : OD) (l : List Tok) : Prop := ∀ i x, l[i]? = some x → RepTok M i x
section MCut
variable {N : Nat} {h : PH}
theorem m_isLetter {c : Nat} (hc : c < 1000) : f_X12_isLetter N (Int32.ofNat c) h = some (eB (isL c), h) := by
  unfold f_X12_isLetter f_X12_isLetter_16 f_X12_isLetter_17 isL
  by_cases q1 : c < 97
  · simp (disch := first | (with_reducible assumption) | (simp only [oi_si, oi_sl, oi_sa, oi_sm, oi_sv, oi_sq, ol_si, ol_sl, ol_sa, ol_sm, ol_sv, ol_sq, oa_si, oa_sl, oa_sa, oa_sm, oa_sv, oa_sq, om_si, om_sl, om_sa, om_sm, om_sv, om_sq, ov_si, ov_sl, ov_sa, ov_sm, ov_sv, ov_sq, oq_si, oq_sl, oq_sa, oq_sm, oq_sv, oq_sq, Nat.reduceEqDiff, ↓reduceIte]; done) | omega | (exact ixn (by omega) (by omega)) | (exact ixl (by decide) (by decide)) | (simp only [pt_len, pl, z0, z1, z2, z3, z4, z5, z6, z7, z8, z9, z10, z11, z12]; omega)) only [↓gb_m, ↓gc_m, ↓gl_s, ↓gg_m, gb_s, gc_s, gg_t, gqm_0, gqm_1, pt_pt, sa_sa, sm_sm, si_si, qk12, qg12_0, qs12_0, qg12_1, qg12_2, qs12_2, qg12_3, qs12_3, qg12_4, qg12_5, qg12_6, qg12_7, qs12_7, qg12_8, qs12_8, qg12_9, qg12_10, qg12_11, qg12_12, qg12_13, qs12_13, qg12_14, qg12_15, qg12_16, qg12_17, qg12_18, qs12_18, qg12_19, qg12_20, qg12_21, qg12_22, qg12_23, qs12_23, qg12_24, qs12_24, qg12_25, qs12_25, qg12_26, qs12_26, qg12_27, qs12_27, qg12_28, qs12_28, qg12_29, qg12_30, qs12_30, qg12_31, qg12_32, qg12_33, qg12_34, qg12_35, qg12_36, qs12_36, qg12_37, qs12_37, qg12_38, qs12_38, qg12_39, qs12_39, qg12_40, qs12_40, qg12_41, qg12_42, qs12_42, qg12_43, qs12_43, qg12_44, qs12_44, qg12_45, qs12_45, qg12_46, qs12_46, qg12_47, qa12_1, qe12_1, ql12_1, qa12_4, qe12_4, ql12_4, qa12_5, qe12_5, ql12_5, qa12_6, qe12_6, ql12_6, qa12_9, qe12_9, ql12_9, qa12_10, qe12_10, ql12_10, qa12_11, qe12_11, ql12_11, qa12_12, qe12_12, ql12_12, qa12_14, qe12_14, ql12_14, qa12_15, qe12_15, ql12_15, qa12_16, qe12_16, ql12_16, qa12_17, qe12_17, ql12_17, qa12_19, qe12_19, ql12_19, qa12_20, qe12_20, ql12_20, qa12_21, qe12_21, ql12_21, qa12_22, qe12_22, ql12_22, qa12_29, qe12_29, ql12_29, qa12_31, qe12_31, ql12_31, qa12_32, qe12_32, ql12_32, qa12_33, qe12_33, ql12_33, qa12_34, qe12_34, ql12_34, qa12_35, qe12_35, ql12_35, qa12_41, qe12_41, ql12_41, qa12_47, qe12_47, ql12_47, oi_si, oi_sl, oi_sa, oi_sm, oi_sv, oi_sq, ol_si, ol_sl, ol_sa, ol_sm, ol_sv, ol_sq, oa_si, oa_sl, oa_sa, oa_sm, oa_sv, oa_sq, om_si, om_sl, om_sa, om_sm, om_sv, om_sq, ov_si, ov_sl, ov_sa, ov_sm, ov_sv, ov_sq, oq_si, oq_sl, oq_sa, oq_sm, oq_sv, oq_sq, Nat.reduceEqDiff, ↓reduceIte, n_add, n_addl, n_ladd, n_add1, n_mul, n_lmul, n_mull, n_sub, n_subl, n_subm, n_lt, n_le, n_eq, n_ltl, n_llt, n_lel, n_lle, n_eql, n_leq, n_m1, n_m1l, n_lt0, n_ge0, i_okc, i_okl, if_true, if_false, not_true, not_false, Nat.not_lt_zero, Nat.zero_le, q1, gzb0]
    rw [decide_eq_false (by omega)]
    rfl
  · by_cases q2 : 122 < c
    · simp (disch := first | (with_reducible assumption) | (simp only [oi_si, oi_sl, oi_sa, oi_sm, oi_sv, oi_sq, ol_si, ol_sl, ol_sa, ol_sm, ol_sv, ol_sq, oa_si, oa_sl, oa_sa, oa_sm, oa_sv, oa_sq, om_si, om_sl, om_sa, om_sm, om_sv, om_sq, ov_si, ov_sl, ov_sa, ov_sm, ov_sv, ov_sq, oq_si, oq_sl, oq_sa, oq_sm, oq_sv, oq_sq, Nat.reduceEqDiff, ↓reduceIte]; done) | omega | (exact ixn (by omega) (by omega)) | (exact ixl (by decide) (by decide)) | (simp only [pt_len, pl, z0, z1, z2, z3, z4, z5, z6, z7, z8, z9, z10, z11, z12]; omega)) only [↓gb_m, ↓gc_m, ↓gl_s, ↓gg_m, gb_s, gc_s, gg_t, gqm_0, gqm_1, pt_pt, sa_sa, sm_sm, si_si, qk12, qg12_0, qs12_0, qg12_1, qg12_2, qs12_2, qg12_3, qs12_3, qg12_4, qg12_5, qg12_6, qg12_7, qs12_7, qg12_8, qs12_8, qg12_9, qg12_10, qg12_11, qg12_12, qg12_13, qs12_13, qg12_14, qg12_15, qg12_16, qg12_17, qg12_18, qs12_18, qg12_19, qg12_20, qg12_21, qg12_22, qg12_23, qs12_23, qg12_24, qs12_24, qg12_25, qs12_25, qg12_26, qs12_26, qg12_27, qs12_27, qg12_28, qs12_28, qg12_29, qg12_30, qs12_30, qg12_31, qg12_32, qg12_33, qg12_34, qg12_35, qg12_36, qs12_36, qg12_37, qs12_37, qg12_38, qs12_38, qg12_39, qs12_39, qg12_40, qs12_40, qg12_41, qg12_42, qs12_42, qg12_43, qs12_43, qg12_44, qs12_44, qg12_45, qs12_45, qg12_46, qs12_46, qg12_47, qa12_1, qe12_1, ql12_1, qa12_4, qe12_4, ql12_4, qa12_5, qe12_5, ql12_5, qa12_6, qe12_6, ql12_6, qa12_9, qe12_9, ql12_9, qa12_10, qe12_10, ql12_10, qa12_11, qe12_11, ql12_11, qa12_12, qe12_12, ql12_12, qa12_14, qe12_14, ql12_14, qa12_15, qe12_15, ql12_15, qa12_16, qe12_16, ql12_16, qa12_17, qe12_17, ql12_17, qa12_19, qe12_19, ql12_19, qa12_20, qe12_20, ql12_20, qa12_21, qe12_21, ql12_21, qa12_22, qe12_22, ql12_22, qa12_29, qe12_29, ql12_29, qa12_31, qe12_31, ql12_31, qa12_32, qe12_32, ql12_32, qa12_33, qe12_33, ql12_33, qa12_34, qe12_34, ql12_34, qa12_35, qe12_35, ql12_35, qa12_41, qe12_41, ql12_41, qa12_47, qe12_47, ql12_47, oi_si, oi_sl, oi_sa, oi_sm, oi_sv, oi_sq, ol_si, ol_sl, ol_sa, ol_sm, ol_sv, ol_sq, oa_si, oa_sl, oa_sa, oa_sm, oa_sv, oa_sq, om_si, om_sl, om_sa, om_sm, om_sv, om_sq, ov_si, ov_sl, ov_sa, ov_sm, ov_sv, ov_sq, oq_si, oq_sl, oq_sa, oq_sm, oq_sv, oq_sq, Nat.reduceEqDiff, ↓reduceIte, n_add, n_addl, n_ladd, n_add1, n_mul, n_lmul, n_mull, n_sub, n_subl, n_subm, n_lt, n_le, n_eq, n_ltl, n_llt, n_lel, n_lle, n_eql, n_leq, n_m1, n_m1l, n_lt0, n_ge0, i_okc, i_okl, if_true, if_false, not_true, not_false, Nat.not_lt_zero, Nat.zero_le, q1, q2, gzb0]
      rw [decide_eq_false (p := c ≤ 122) (by omega), Bool.and_false]
      rfl
    · simp (disch := first | (with_reducible assumption) | (simp only [oi_si, oi_sl, oi_sa, oi_sm, oi_sv, oi_sq, ol_si, ol_sl, ol_sa, ol_sm, ol_sv, ol_sq, oa_si, oa_sl, oa_sa, oa_sm, oa_sv, oa_sq, om_si, om_sl, om_sa, om_sm, om_sv, om_sq, ov_si, ov_sl, ov_sa, ov_sm, ov_sv, ov_sq, oq_si, oq_sl, oq_sa, oq_sm, oq_sv, oq_sq, Nat.reduceEqDiff, ↓reduceIte]; done) | omega | (exact ixn (by omega) (by omega)) | (exact ixl (by decide) (by decide)) | (simp only [pt_len, pl, z0, z1, z2, z3, z4, z5, z6, z7, z8, z9, z10, z11, z12]; omega)) only [↓gb_m, ↓gc_m, ↓gl_s, ↓gg_m, gb_s, gc_s, gg_t, gqm_0, gqm_1, pt_pt, sa_sa, sm_sm, si_si, qk12, qg12_0, qs12_0, qg12_1, qg12_2, qs12_2, qg12_3, qs12_3, qg12_4, qg12_5, qg12_6, qg12_7, qs12_7, qg12_8, qs12_8, qg12_9, qg12_10, qg12_11, qg12_12, qg12_13, qs12_13, qg12_14, qg12_15, qg12_16, qg12_17, qg12_18, qs12_18, qg12_19, qg12_20, qg12_21, qg12_22, qg12_23, qs12_23, qg12_24, qs12_24, qg12_25, qs12_25, qg12_26, qs12_26, qg12_27, qs12_27, qg12_28, qs12_28, qg12_29, qg12_30, qs12_30, qg12_31, qg12_32, qg12_33, qg12_34, qg12_35, qg12_36, qs12_36, qg12_37, qs12_37, qg12_38, qs12_38, qg12_39, qs12_39, qg12_40, qs12_40, qg12_41, qg12_42, qs12_42, qg12_43, qs12_43, qg12_44, qs12_44, qg12_45, qs12_45, qg12_46, qs12_46, qg12_47, qa12_1, qe12_1, ql12_1, qa12_4, qe12_4, ql12_4, qa12_5, qe12_5, ql12_5, qa12_6, qe12_6, ql12_6, qa12_9, qe12_9, ql12_9, qa12_10, qe12_10, ql12_10, qa12_11, qe12_11, ql12_11, qa12_12, qe12_12, ql12_12, qa12_14, qe12_14, ql12_14, qa12_15, qe12_15, ql12_15, qa12_16, qe12_16, ql12_16, qa12_17, qe12_17, ql12_17, qa12_19, qe12_19, ql12_19, qa12_20, qe12_20, ql12_20, qa12_21, qe12_21, ql12_21, qa12_22, qe12_22, ql12_22, qa12_29, qe12_29, ql12_29, qa12_31, qe12_31, ql12_31, qa12_32, qe12_32, ql12_32, qa12_33, qe12_33, ql12_33, qa12_34, qe12_34, ql12_34, qa12_35, qe12_35, ql12_35, qa12_41, qe12_41, ql12_41, qa12_47, qe12_47, ql12_47, oi_si, oi_sl, oi_sa, oi_sm, oi_sv, oi_sq, ol_si, ol_sl, ol_sa, ol_sm, ol_sv, ol_sq, oa_si, oa_sl, oa_sa, oa_sm, oa_sv, oa_sq, om_si, om_sl, om_sa, om_sm, om_sv, om_sq, ov_si, ov_sl, ov_sa, ov_sm, ov_sv, ov_sq, oq_si, oq_sl, oq_sa, oq_sm, oq_sv, oq_sq, Nat.reduceEqDiff, ↓reduceIte, n_add, n_addl, n_ladd, n_add1, n_mul, n_lmul, n_mull, n_sub, n_subl, n_subm, n_lt, n_le, n_eq, n_ltl, n_llt, n_lel, n_lle, n_eql, n_leq, n_m1, n_m1l, n_lt0, n_ge0, i_okc, i_okl, if_true, if_false, not_true, not_false, Nat.not_lt_zero, Nat.zero_le, q1, q2, gzb1]
      rw [decide_eq_true (by omega), decide_eq_true (by omega)]
      rfl
theorem m_isDigit {c : Nat} (hc : c < 1000) : f_X12_isDigit N (Int32.ofNat c) h = some (eB (isD c), h) := by
  unfold f_X12_isDigit f_X12_isDigit_16 f_X12_isDigit_17 isD
  by_cases q1 : c < 48
  · simp (disch := first | (with_reducible assumption) | (simp only [oi_si, oi_sl, oi_sa, oi_sm, oi_sv, oi_sq, ol_si, ol_sl, ol_sa, ol_sm, ol_sv, ol_sq, oa_si, oa_sl, oa_sa, oa_sm, oa_sv, oa_sq, om_si, om_sl, om_sa, om_sm, om_sv, om_sq, ov_si, ov_sl, ov_sa, ov_sm, ov_sv, ov_sq, oq_si, oq_sl, oq_sa, oq_sm, oq_sv, oq_sq, Nat.reduceEqDiff, ↓reduceIte]; done) | omega | (exact ixn (by omega) (by omega)) | (exact ixl (by decide) (by decide)) | (simp only [pt_len, pl, z0, z1, z2, z3, z4, z5, z6, z7, z8, z9, z10, z11, z12]; omega)) only [↓gb_m, ↓gc_m, ↓gl_s, ↓gg_m, gb_s, gc_s, gg_t, gqm_0, gqm_1, pt_pt, sa_sa, sm_sm, si_si, qk12, qg12_0, qs12_0, qg12_1, qg12_2, qs12_2, qg12_3, qs12_3, qg12_4, qg12_5, qg12_6, qg12_7, qs12_7, qg12_8, qs12_8, qg12_9, qg12_10, qg12_11, qg12_12, qg12_13, qs12_13, qg12_14, qg12_15, qg12_16, qg12_17, qg12_18, qs12_18, qg12_19, qg12_20, qg12_21, qg12_22, qg12_23, qs12_23, qg12_24, qs12_24, qg12_25, qs12_25, qg12_26, qs12_26, qg12_27, qs12_27, qg12_28, qs12_28, qg12_29, qg12_30, qs12_30, qg12_31, qg12_32, qg12_33, qg12_34, qg12_35, qg12_36, qs12_36, qg12_37, qs12_37, qg12_38, qs12_38, qg12_39, qs12_39, qg12_40, qs12_40, qg12_41, qg12_42, qs12_42, qg12_43, qs12_43, qg12_44, qs12_44, qg12_45, qs12_45, qg12_46, qs12_46, qg12_47, qa12_1, qe12_1, ql12_1, qa12_4, qe12_4, ql12_4, qa12_5, qe12_5, ql12_5, qa12_6, qe12_6, ql12_6, qa12_9, qe12_9, ql12_9, qa12_10, qe12_10, ql12_10, qa12_11, qe12_11, ql12_11, qa12_12, qe12_12, ql12_12, qa12_14, qe12_14, ql12_14, qa12_15, qe12_15, ql12_15, qa12_16, qe12_16, ql12_16, qa12_17, qe12_17, ql12_17, qa12_19, qe12_19, ql12_19, qa12_20, qe12_20, ql12_20, qa12_21, qe12_21, ql12_21, qa12_22, qe12_22, ql12_22, qa12_29, qe12_29, ql12_29, qa12_31, qe12_31, ql12_31, qa12_32, qe12_32, ql12_32, qa12_33, qe12_33, ql12_33, qa12_34, qe12_34, ql12_34, qa12_35, qe12_35, ql12_35, qa12_41, qe12_41, ql12_41, qa12_47, qe12_47, ql12_47, oi_si, oi_sl, oi_sa, oi_sm, oi_sv, oi_sq, ol_si, ol_sl, ol_sa, ol_sm, ol_sv, ol_sq, oa_si, oa_sl, oa_sa, oa_sm, oa_sv, oa_sq, om_si, om_sl, om_sa, om_sm, om_sv, om_sq, ov_si, ov_sl, ov_sa, ov_sm, ov_sv, ov_sq, oq_si, oq_sl, oq_sa, oq_sm, oq_sv, oq_sq, Nat.reduceEqDiff, ↓reduceIte, n_add, n_addl, n_ladd, n_add1, n_mul, n_lmul, n_mull, n_sub, n_subl, n_subm, n_lt, n_le, n_eq, n_ltl, n_llt, n_lel, n_lle, n_eql, n_leq, n_m1, n_m1l, n_lt0, n_ge0, i_okc, i_okl, if_true, if_false, not_true, not_false, Nat.not_lt_zero, Nat.zero_le, q1, gzb0]
    rw [decide_eq_false (by omega)]
    rfl
  · by_cases q2 : 57 < c
    · simp (disch := first | (with_reducible assumption) | (simp only [oi_si, oi_sl, oi_sa, oi_sm, oi_sv, oi_sq, ol_si, ol_sl, ol_sa, ol_sm, ol_sv, ol_sq, oa_si, oa_sl, oa_sa, oa_sm, oa_sv, oa_sq, om_si, om_sl, om_sa, om_sm, om_sv, om_sq, ov_si, ov_sl, ov_sa, ov_sm, ov_sv, ov_sq, oq_si, oq_sl, oq_sa, oq_sm, oq_sv, oq_sq, Nat.reduceEqDiff, ↓reduceIte]; done) | omega | (exact ixn (by omega) (by omega)) | (exact ixl (by decide) (by decide)) | (simp only [pt_len, pl, z0, z1, z2, z3, z4, z5, z6, z7, z8, z9, z10, z11, z12]; omega)) only [↓gb_m, ↓gc_m, ↓gl_s, ↓gg_m, gb_s, gc_s, gg_t, gqm_0, gqm_1, pt_pt, sa_sa, sm_sm, si_si, qk12, qg12_0, qs12_0, qg12_1, qg12_2, qs12_2, qg12_3, qs12_3, qg12_4, qg12_5, qg12_6, qg12_7, qs12_7, qg12_8, qs12_8, qg12_9, qg12_10, qg12_11, qg12_12, qg12_13, qs12_13, qg12_14, qg12_15, qg12_16, qg12_17, qg12_18, qs12_18, qg12_19, qg12_20, qg12_21, qg12_22, qg12_23, qs12_23, qg12_24, qs12_24, qg12_25, qs12_25, qg12_26, qs12_26, qg12_27, qs12_27, qg12_28, qs12_28, qg12_29, qg12_30, qs12_30, qg12_31, qg12_32, qg12_33, qg12_34, qg12_35, qg12_36, qs12_36, qg12_37, qs12_37, qg12_38, qs12_38, qg12_39, qs12_39, qg12_40, qs12_40, qg12_41, qg12_42, qs12_42, qg12_43, qs12_43, qg12_44, qs12_44, qg12_45, qs12_45, qg12_46, qs12_46, qg12_47, qa12_1, qe12_1, ql12_1, qa12_4, qe12_4, ql12_4, qa12_5, qe12_5, ql12_5, qa12_6, qe12_6, ql12_6, qa12_9, qe12_9, ql12_9, qa12_10, qe12_10, ql12_10, qa12_11, qe12_11, ql12_11, qa12_12, qe12_12, ql12_12, qa12_14, qe12_14, ql12_14, qa12_15, qe12_15, ql12_15, qa12_16, qe12_16, ql12_16, qa12_17, qe12_17, ql12_17, qa12_19, qe12_19, ql12_19, qa12_20, qe12_20, ql12_20, qa12_21, qe12_21, ql12_21, qa12_22, qe12_22, ql12_22, qa12_29, qe12_29, ql12_29, qa12_31, qe12_31, ql12_31, qa12_32, qe12_32, ql12_32, qa12_33, qe12_33, ql12_33, qa12_34, qe12_34, ql12_34, qa12_35, qe12_35, ql12_35, qa12_41, qe12_41, ql12_41, qa12_47, qe12_47, ql12_47, oi_si, oi_sl, oi_sa, oi_sm, oi_sv, oi_sq, ol_si, ol_sl, ol_sa, ol_sm, ol_sv, ol_sq, oa_si, oa_sl, oa_sa, oa_sm, oa_sv, oa_sq, om_si, om_sl, om_sa, om_sm, om_sv, om_sq, ov_si, ov_sl, ov_sa, ov_sm, ov_sv, ov_sq, oq_si, oq_sl, oq_sa, oq_sm, oq_sv, oq_sq, Nat.reduceEqDiff, ↓reduceIte, n_add, n_addl, n_ladd, n_add1, n_mul, n_lmul, n_mull, n_sub, n_subl, n_subm, n_lt, n_le, n_eq, n_ltl, n_llt, n_lel, n_lle, n_eql, n_leq, n_m1, n_m1l, n_lt0, n_ge0, i_okc, i_okl, if_true, if_false, not_true, not_false, Nat.not_lt_zero, Nat.zero_le, q1, q2, gzb0]
      rw [decide_eq_false (p := c ≤ 57) (by omega), Bool.and_false]
      rfl
    · simp (disch := first | (with_reducible assumption) | (simp only [oi_si, oi_sl, oi_sa, oi_sm, oi_sv, oi_sq, ol_si, ol_sl, ol_sa, ol_sm, ol_sv, ol_sq, oa_si, oa_sl, oa_sa, oa_sm, oa_sv, oa_sq, om_si, om_sl, om_sa, om_sm, om_sv, om_sq, ov_si, ov_sl, ov_sa, ov_sm, ov_sv, ov_sq, oq_si, oq_sl, oq_sa, oq_sm, oq_sv, oq_sq, Nat.reduceEqDiff, ↓reduceIte]; done) | omega | (exact ixn (by omega) (by omega)) | (exact ixl (by decide) (by decide)) | (simp only [pt_len, pl, z0, z1, z2, z3, z4, z5, z6, z7, z8, z9, z10, z11, z12]; omega)) only [↓gb_m, ↓gc_m, ↓gl_s, ↓gg_m, gb_s, gc_s, gg_t, gqm_0, gqm_1, pt_pt, sa_sa, sm_sm, si_si, qk12, qg12_0, qs12_0, qg12_1, qg12_2, qs12_2, qg12_3, qs12_3, qg12_4, qg12_5, qg12_6, qg12_7, qs12_7, qg12_8, qs12_8, qg12_9, qg12_10, qg12_11, qg12_12, qg12_13, qs12_13, qg12_14, qg12_15, qg12_16, qg12_17, qg12_18, qs12_18, qg12_19, qg12_20, qg12_21, qg12_22, qg12_23, qs12_23, qg12_24, qs12_24, qg12_25, qs12_25, qg12_26, qs12_26, qg12_27, qs12_27, qg12_28, qs12_28, qg12_29, qg12_30, qs12_30, qg12_31, qg12_32, qg12_33, qg12_34, qg12_35, qg12_36, qs12_36, qg12_37, qs12_37, qg12_38, qs12_38, qg12_39, qs12_39, qg12_40, qs12_40, qg12_41, qg12_42, qs12_42, qg12_43, qs12_43, qg12_44, qs12_44, qg12_45, qs12_45, qg12_46, qs12_46, qg12_47, qa12_1, qe12_1, ql12_1, qa12_4, qe12_4, ql12_4, qa12_5, qe12_5, ql12_5, qa12_6, qe12_6, ql12_6, qa12_9, qe12_9, ql12_9, qa12_10, qe12_10, ql12_10, qa12_11, qe12_11, ql12_11, qa12_12, qe12_12, ql12_12, qa12_14, qe12_14, ql12_14, qa12_15, qe12_15, ql12_15, qa12_16, qe12_16, ql12_16, qa12_17, qe12_17, ql12_17, qa12_19, qe12_19, ql12_19, qa12_20, qe12_20, ql12_20, qa12_21, qe12_21, ql12_21, qa12_22, qe12_22, ql12_22, qa12_29, qe12_29, ql12_29, qa12_31, qe12_31, ql12_31, qa12_32, qe12_32, ql12_32, qa12_33, qe12_33, ql12_33, qa12_34, qe12_34, ql12_34, qa12_35, qe12_35, ql12_35, qa12_41, qe12_41, ql12_41, qa12_47, qe12_47, ql12_47, oi_si, oi_sl, oi_sa, oi_sm, oi_sv, oi_sq, ol_si, ol_sl, ol_sa, ol_sm, ol_sv, ol_sq, oa_si, oa_sl, oa_sa, oa_sm, oa_sv, oa_sq, om_si, om_sl, om_sa, om_sm, om_sv, om_sq, ov_si, ov_sl, ov_sa, ov_sm, ov_sv, ov_sq, oq_si, oq_sl, oq_sa, oq_sm, oq_sv, oq_sq, Nat.reduceEqDiff, ↓reduceIte, n_add, n_addl, n_ladd, n_add1, n_mul, n_lmul, n_mull, n_sub, n_subl, n_subm, n_lt, n_le, n_eq, n_ltl, n_llt, n_lel, n_lle, n_eql, n_leq, n_m1, n_m1l, n_lt0, n_ge0, i_okc, i_okl, if_true, if_false, not_true, not_false, Nat.not_lt_zero, Nat.zero_le, q1, q2, gzb1]
      rw [decide_eq_true (by omega), decide_eq_true (by omega)]
      rfl
theorem m_rank {c : Nat} (hc : c < 1000) (hl : isL c = true) : f_X12_rank N (Int32.ofNat c) h = some (Int32.ofNat (c - 96), h) := by
  have h2 : 97 ≤ c := by
    unfold isL at hl
    simp at hl
    omega
  unfold f_X12_rank f_X12_rank_18
  simp (disch := first | (with_reducible assumption) | (simp only [oi_si, oi_sl, oi_sa, oi_sm, oi_sv, oi_sq, ol_si, ol_sl, ol_sa, ol_sm, ol_sv, ol_sq, oa_si, oa_sl, oa_sa, oa_sm, oa_sv, oa_sq, om_si, om_sl, om_sa, om_sm, om_sv, om_sq, ov_si, ov_sl, ov_sa, ov_sm, ov_sv, ov_sq, oq_si, oq_sl, oq_sa, oq_sm, oq_sv, oq_sq, Nat.reduceEqDiff, ↓reduceIte]; done) | omega | (exact ixn (by omega) (by omega)) | (exact ixl (by decide) (by decide)) | (simp only [pt_len, pl, z0, z1, z2, z3, z4, z5, z6, z7, z8, z9, z10, z11, z12]; omega)) only [↓gb_m, ↓gc_m, ↓gl_s, ↓gg_m, gb_s, gc_s, gg_t, gqm_0, gqm_1, pt_pt, sa_sa, sm_sm, si_si, qk12, qg12_0, qs12_0, qg12_1, qg12_2, qs12_2, qg12_3, qs12_3, qg12_4, qg12_5, qg12_6, qg12_7, qs12_7, qg12_8, qs12_8, qg12_9, qg12_10, qg12_11, qg12_12, qg12_13, qs12_13, qg12_14, qg12_15, qg12_16, qg12_17, qg12_18, qs12_18, qg12_19, qg12_20, qg12_21, qg12_22, qg12_23, qs12_23, qg12_24, qs12_24, qg12_25, qs12_25, qg12_26, qs12_26, qg12_27, qs12_27, qg12_28, qs12_28, qg12_29, qg12_30, qs12_30, qg12_31, qg12_32, qg12_33, qg12_34, qg12_35, qg12_36, qs12_36, qg12_37, qs12_37, qg12_38, qs12_38, qg12_39, qs12_39, qg12_40, qs12_40, qg12_41, qg12_42, qs12_42, qg12_43, qs12_43, qg12_44, qs12_44, qg12_45, qs12_45, qg12_46, qs12_46, qg12_47, qa12_1, qe12_1, ql12_1, qa12_4, qe12_4, ql12_4, qa12_5, qe12_5, ql12_5, qa12_6, qe12_6, ql12_6, qa12_9, qe12_9, ql12_9, qa12_10, qe12_10, ql12_10, qa12_11, qe12_11, ql12_11, qa12_12, qe12_12, ql12_12, qa12_14, qe12_14, ql12_14, qa12_15, qe12_15, ql12_15, qa12_16, qe12_16, ql12_16, qa12_17, qe12_17, ql12_17, qa12_19, qe12_19, ql12_19, qa12_20, qe12_20, ql12_20, qa12_21, qe12_21, ql12_21, qa12_22, qe12_22, ql12_22, qa12_29, qe12_29, ql12_29, qa12_31, qe12_31, ql12_31, qa12_32, qe12_32, ql12_32, qa12_33, qe12_33, ql12_33, qa12_34, qe12_34, ql12_34, qa12_35, qe12_35, ql12_35, qa12_41, qe12_41, ql12_41, qa12_47, qe12_47, ql12_47, oi_si, oi_sl, oi_sa, oi_sm, oi_sv, oi_sq, ol_si, ol_sl, ol_sa, ol_sm, ol_sv, ol_sq, oa_si, oa_sl, oa_sa, oa_sm, oa_sv, oa_sq, om_si, om_sl, om_sa, om_sm, om_sv, om_sq, ov_si, ov_sl, ov_sa, ov_sm, ov_sv, ov_sq, oq_si, oq_sl, oq_sa, oq_sm, oq_sv, oq_sq, Nat.reduceEqDiff, ↓reduceIte, n_add, n_addl, n_ladd, n_add1, n_mul, n_lmul, n_mull, n_sub, n_subl, n_subm, n_lt, n_le, n_eq, n_ltl, n_llt, n_lel, n_lle, n_eql, n_leq, n_m1, n_m1l, n_lt0, n_ge0, i_okc, i_okl, if_true, if_false, not_true, not_false, Nat.not_lt_zero, Nat.zero_le, m_isLetter hc, hl, eB0, Bool.true_eq_false]
theorem m_isSignOf : ∀ c, c < 127 → ∀ (N : Nat) (h : PH), f_X12_isSignOf N (Int32.ofNat c) h = some (eB (isS c), h) := by
  intro c hc N h
  unfold f_X12_isSignOf f_X12_isSignOf_48 f_X12_isSignOf_53 isS
  by_cases q1 : c = 40
  · subst q1; rfl
  · by_cases q2 : c = 41
    · subst q2; rfl
    · by_cases q3 : c = 59
      · subst q3; rfl
      · by_cases q4 : c = 61
        · subst q4; rfl
        · by_cases q5 : c = 60
          · subst q5; rfl
          · by_cases q6 : c = 43
            · subst q6; rfl
            · by_cases q7 : c = 45
              · subst q7; rfl
              · by_cases q8 : c = 42
                · subst q8; rfl
                · simp (disch := first | (with_reducible assumption) | (simp only [oi_si, oi_sl, oi_sa, oi_sm, oi_sv, oi_sq, ol_si, ol_sl, ol_sa, ol_sm, ol_sv, ol_sq, oa_si, oa_sl, oa_sa, oa_sm, oa_sv, oa_sq, om_si, om_sl, om_sa, om_sm, om_sv, om_sq, ov_si, ov_sl, ov_sa, ov_sm, ov_sv, ov_sq, oq_si, oq_sl, oq_sa, oq_sm, oq_sv, oq_sq, Nat.reduceEqDiff, ↓reduceIte]; done) | omega | (exact ixn (by omega) (by omega)) | (exact ixl (by decide) (by decide)) | (simp only [pt_len, pl, z0, z1, z2, z3, z4, z5, z6, z7, z8, z9, z10, z11, z12]; omega)) only [↓gb_m, ↓gc_m, ↓gl_s, ↓gg_m, gb_s, gc_s, gg_t, gqm_0, gqm_1, pt_pt, sa_sa, sm_sm, si_si, qk12, qg12_0, qs12_0, qg12_1, qg12_2, qs12_2, qg12_3, qs12_3, qg12_4, qg12_5, qg12_6, qg12_7, qs12_7, qg12_8, qs12_8, qg12_9, qg12_10, qg12_11, qg12_12, qg12_13, qs12_13, qg12_14, qg12_15, qg12_16, qg12_17, qg12_18, qs12_18, qg12_19, qg12_20, qg12_21, qg12_22, qg12_23, qs12_23, qg12_24, qs12_24, qg12_25, qs12_25, qg12_26, qs12_26, qg12_27, qs12_27, qg12_28, qs12_28, qg12_29, qg12_30, qs12_30, qg12_31, qg12_32, qg12_33, qg12_34, qg12_35, qg12_36, qs12_36, qg12_37, qs12_37, qg12_38, qs12_38, qg12_39, qs12_39, qg12_40, qs12_40, qg12_41, qg12_42, qs12_42, qg12_43, qs12_43, qg12_44, qs12_44, qg12_45, qs12_45, qg12_46, qs12_46, qg12_47, qa12_1, qe12_1, ql12_1, qa12_4, qe12_4, ql12_4, qa12_5, qe12_5, ql12_5, qa12_6, qe12_6, ql12_6, qa12_9, qe12_9, ql12_9, qa12_10, qe12_10, ql12_10, qa12_11, qe12_11, ql12_11, qa12_12, qe12_12, ql12_12, qa12_14, qe12_14, ql12_14, qa12_15, qe12_15, ql12_15, qa12_16, qe12_16, ql12_16, qa12_17, qe12_17, ql12_17, qa12_19, qe12_19, ql12_19, qa12_20, qe12_20, ql12_20, qa12_21, qe12_21, ql12_21, qa12_22, qe12_22, ql12_22, qa12_29, qe12_29, ql12_29, qa12_31, qe12_31, ql12_31, qa12_32, qe12_32, ql12_32, qa12_33, qe12_33, ql12_33, qa12_34, qe12_34, ql12_34, qa12_35, qe12_35, ql12_35, qa12_41, qe12_41, ql12_41, qa12_47, qe12_47, ql12_47, oi_si, oi_sl, oi_sa, oi_sm, oi_sv, oi_sq, ol_si, ol_sl, ol_sa, ol_sm, ol_sv, ol_sq, oa_si, oa_sl, oa_sa, oa_sm, oa_sv, oa_sq, om_si, om_sl, om_sa, om_sm, om_sv, om_sq, ov_si, ov_sl, ov_sa, ov_sm, ov_sv, ov_sq, oq_si, oq_sl, oq_sa, oq_sm, oq_sv, oq_sq, Nat.reduceEqDiff, ↓reduceIte, n_add, n_addl, n_ladd, n_add1, n_mul, n_lmul, n_mull, n_sub, n_subl, n_subm, n_lt, n_le, n_eq, n_ltl, n_llt, n_lel, n_lle, n_eql, n_leq, n_m1, n_m1l, n_lt0, n_ge0, i_okc, i_okl, if_true, if_false, not_true, not_false, Nat.not_lt_zero, Nat.zero_le, q1, q2, q3, q4, q5, q6, q7, q8, gzb0, decide_false, Bool.or_false]
                  rfl
theorem tk8 (l : List Nat) : l.take (min l.length 8) = l.take 8 := by
  rcases Nat.le_total l.length 8 with q | q
  · rw [Nat.min_eq_left q, List.take_length, List.take_of_length_le q]
  · rw [Nat.min_eq_right q]
theorem tk4 (l : List Nat) : l.take (min l.length 4) = l.take 4 := by
  rcases Nat.le_total l.length 4 with q | q
  · rw [Nat.min_eq_left q, List.take_length, List.take_of_length_le q]
  · rw [Nat.min_eq_right q]
theorem m_cut70 (hF : 80 + 25 ≤ h.length) {M : OD} {T : List Nat} (hT : TOk T) (hs : oi M 3 = Int32.ofNat T.length) (hR : ∀ (k c : Nat), T[k]? = some c → oa M 1 k = Int32.ofNat c) (zk17 : (Nat × Int32 × Int32 × PH) → Option PH) {n : Int32} {k : Nat} (hk : k ≤ T.length) {run : List Nat} (hr : run = (T.drop k).takeWhile isL) : ∀ d j m, j + d = run.length → d < m → gi (fun zk zs => f_X12_cutAll_70 N zk17 zk zs.1 zs.2.1 zs.2.2.1 zs.2.2.2.1 zs.2.2.2.2.1 zs.2.2.2.2.2) m (80, n, Int32.ofNat (k + j), Int32.ofNat k, Int64.ofNat (v37 (run.take (min j 8))), pt sX12 80 M h) = f_X12_cutAll_129 N zk17 80 n (Int32.ofNat (k + run.length)) (Int32.ofNat k) (Int64.ofNat (v37 (run.take 8))) (pt sX12 80 M h) := by
  obtain ⟨w1, w2, w3⟩ := tw_at (p := isL) (T.drop k)
  rw [← hr] at w1 w2 w3
  rw [List.length_drop] at w3
  have hl := hT.1
  intro d
  induction d with
  | zero =>
    intro j m hj hm
    obtain ⟨m, rfl⟩ : ∃ k, m = k + 1 := ⟨m - 1, by omega⟩
    rw [gi_1]
    generalize hz : gi _ m = zk
    dsimp only
    have hj : j = run.length := by omega
    subst hj
    rw [tk8]
    unfold f_X12_cutAll_70
    rcases Nat.lt_or_ge (k + run.length) T.length with q | q
    · obtain ⟨c, hc⟩ : ∃ c, T[k + run.length]? = some c := ⟨_, List.getElem?_eq_getElem q⟩
      have c1 := hR _ c hc
      have c2 := hT.2 c (List.mem_of_getElem? hc)
      have c3 : isL c = false := w2 c (by rw [List.getElem?_drop]; exact hc)
      have b2 : (T.length ≤ k + run.length) = False := propext ⟨fun h => by omega, False.elim⟩
      simp (disch := first | (with_reducible assumption) | (simp only [oi_si, oi_sl, oi_sa, oi_sm, oi_sv, oi_sq, ol_si, ol_sl, ol_sa, ol_sm, ol_sv, ol_sq, oa_si, oa_sl, oa_sa, oa_sm, oa_sv, oa_sq, om_si, om_sl, om_sa, om_sm, om_sv, om_sq, ov_si, ov_sl, ov_sa, ov_sm, ov_sv, ov_sq, oq_si, oq_sl, oq_sa, oq_sm, oq_sv, oq_sq, Nat.reduceEqDiff, ↓reduceIte]; done) | omega | (exact ixn (by omega) (by omega)) | (exact ixl (by decide) (by decide)) | (simp only [pt_len, pl, z0, z1, z2, z3, z4, z5, z6, z7, z8, z9, z10, z11, z12]; omega)) only [↓gb_m, ↓gc_m, ↓gl_s, ↓gg_m, gb_s, gc_s, gg_t, gqm_0, gqm_1, pt_pt, sa_sa, sm_sm, si_si, qk12, qg12_0, qs12_0, qg12_1, qg12_2, qs12_2, qg12_3, qs12_3, qg12_4, qg12_5, qg12_6, qg12_7, qs12_7, qg12_8, qs12_8, qg12_9, qg12_10, qg12_11, qg12_12, qg12_13, qs12_13, qg12_14, qg12_15, qg12_16, qg12_17, qg12_18, qs12_18, qg12_19, qg12_20, qg12_21, qg12_22, qg12_23, qs12_23, qg12_24, qs12_24, qg12_25, qs12_25, qg12_26, qs12_26, qg12_27, qs12_27, qg12_28, qs12_28, qg12_29, qg12_30, qs12_30, qg12_31, qg12_32, qg12_33, qg12_34, qg12_35, qg12_36, qs12_36, qg12_37, qs12_37, qg12_38, qs12_38, qg12_39, qs12_39, qg12_40, qs12_40, qg12_41, qg12_42, qs12_42, qg12_43, qs12_43, qg12_44, qs12_44, qg12_45, qs12_45, qg12_46, qs12_46, qg12_47, qa12_1, qe12_1, ql12_1, qa12_4, qe12_4, ql12_4, qa12_5, qe12_5, ql12_5, qa12_6, qe12_6, ql12_6, qa12_9, qe12_9, ql12_9, qa12_10, qe12_10, ql12_10, qa12_11, qe12_11, ql12_11, qa12_12, qe12_12, ql12_12, qa12_14, qe12_14, ql12_14, qa12_15, qe12_15, ql12_15, qa12_16, qe12_16, ql12_16, qa12_17, qe12_17, ql12_17, qa12_19, qe12_19, ql12_19, qa12_20, qe12_20, ql12_20, qa12_21, qe12_21, ql12_21, qa12_22, qe12_22, ql12_22, qa12_29, qe12_29, ql12_29, qa12_31, qe12_31, ql12_31, qa12_32, qe12_32, ql12_32, qa12_33, qe12_33, ql12_33, qa12_34, qe12_34, ql12_34, qa12_35, qe12_35, ql12_35, qa12_41, qe12_41, ql12_41, qa12_47, qe12_47, ql12_47, oi_si, oi_sl, oi_sa, oi_sm, oi_sv, oi_sq, ol_si, ol_sl, ol_sa, ol_sm, ol_sv, ol_sq, oa_si, oa_sl, oa_sa, oa_sm, oa_sv, oa_sq, om_si, om_sl, om_sa, om_sm, om_sv, om_sq, ov_si, ov_sl, ov_sa, ov_sm, ov_sv, ov_sq, oq_si, oq_sl, oq_sa, oq_sm, oq_sv, oq_sq, Nat.reduceEqDiff, ↓reduceIte, n_add, n_addl, n_ladd, n_add1, n_mul, n_lmul, n_mull, n_sub, n_subl, n_subm, n_lt, n_le, n_eq, n_ltl, n_llt, n_lel, n_lle, n_eql, n_leq, n_m1, n_m1l, n_lt0, n_ge0, i_okc, i_okl, if_true, if_false, not_true, not_false, Nat.not_lt_zero, Nat.zero_le, hs, b2, c1, m_isLetter (show c < 1000 by omega), c3, eB0]
    · simp (disch := first | (with_reducible assumption) | (simp only [oi_si, oi_sl, oi_sa, oi_sm, oi_sv, oi_sq, ol_si, ol_sl, ol_sa, ol_sm, ol_sv, ol_sq, oa_si, oa_sl, oa_sa, oa_sm, oa_sv, oa_sq, om_si, om_sl, om_sa, om_sm, om_sv, om_sq, ov_si, ov_sl, ov_sa, ov_sm, ov_sv, ov_sq, oq_si, oq_sl, oq_sa, oq_sm, oq_sv, oq_sq, Nat.reduceEqDiff, ↓reduceIte]; done) | omega | (exact ixn (by omega) (by omega)) | (exact ixl (by decide) (by decide)) | (simp only [pt_len, pl, z0, z1, z2, z3, z4, z5, z6, z7, z8, z9, z10, z11, z12]; omega)) only [↓gb_m, ↓gc_m, ↓gl_s, ↓gg_m, gb_s, gc_s, gg_t, gqm_0, gqm_1, pt_pt, sa_sa, sm_sm, si_si, qk12, qg12_0, qs12_0, qg12_1, qg12_2, qs12_2, qg12_3, qs12_3, qg12_4, qg12_5, qg12_6, qg12_7, qs12_7, qg12_8, qs12_8, qg12_9, qg12_10, qg12_11, qg12_12, qg12_13, qs12_13, qg12_14, qg12_15, qg12_16, qg12_17, qg12_18, qs12_18, qg12_19, qg12_20, qg12_21, qg12_22, qg12_23, qs12_23, qg12_24, qs12_24, qg12_25, qs12_25, qg12_26, qs12_26, qg12_27, qs12_27, qg12_28, qs12_28, qg12_29, qg12_30, qs12_30, qg12_31, qg12_32, qg12_33, qg12_34, qg12_35, qg12_36, qs12_36, qg12_37, qs12_37, qg12_38, qs12_38, qg12_39, qs12_39, qg12_40, qs12_40, qg12_41, qg12_42, qs12_42, qg12_43, qs12_43, qg12_44, qs12_44, qg12_45, qs12_45, qg12_46, qs12_46, qg12_47, qa12_1, qe12_1, ql12_1, qa12_4, qe12_4, ql12_4, qa12_5, qe12_5, ql12_5, qa12_6, qe12_6, ql12_6, qa12_9, qe12_9, ql12_9, qa12_10, qe12_10, ql12_10, qa12_11, qe12_11, ql12_11, qa12_12, qe12_12, ql12_12, qa12_14, qe12_14, ql12_14, qa12_15, qe12_15, ql12_15, qa12_16, qe12_16, ql12_16, qa12_17, qe12_17, ql12_17, qa12_19, qe12_19, ql12_19, qa12_20, qe12_20, ql12_20, qa12_21, qe12_21, ql12_21, qa12_22, qe12_22, ql12_22, qa12_29, qe12_29, ql12_29, qa12_31, qe12_31, ql12_31, qa12_32, qe12_32, ql12_32, qa12_33, qe12_33, ql12_33, qa12_34, qe12_34, ql12_34, qa12_35, qe12_35, ql12_35, qa12_41, qe12_41, ql12_41, qa12_47, qe12_47, ql12_47, oi_si, oi_sl, oi_sa, oi_sm, oi_sv, oi_sq, ol_si, ol_sl, ol_sa, ol_sm, ol_sv, ol_sq, oa_si, oa_sl, oa_sa, oa_sm, oa_sv, oa_sq, om_si, om_sl, om_sa, om_sm, om_sv, om_sq, ov_si, ov_sl, ov_sa, ov_sm, ov_sv, ov_sq, oq_si, oq_sl, oq_sa, oq_sm, oq_sv, oq_sq, Nat.reduceEqDiff, ↓reduceIte, n_add, n_addl, n_ladd, n_add1, n_mul, n_lmul, n_mull, n_sub, n_subl, n_subm, n_lt, n_le, n_eq, n_ltl, n_llt, n_lel, n_lle, n_eql, n_leq, n_m1, n_m1l, n_lt0, n_ge0, i_okc, i_okl, if_true, if_false, not_true, not_false, Nat.not_lt_zero, Nat.zero_le, hs, q]
  | succ d ih =>
    intro j m hj hm
    obtain ⟨m, rfl⟩ : ∃ k, m = k + 1 := ⟨m - 1, by omega⟩
    rw [gi_1]
    generalize hz : gi _ m = zk
    dsimp only
    obtain ⟨c, x1, x2, x3⟩ := w1 j (by omega)
    rw [List.getElem?_drop] at x1
    have c1 := hR _ c x1
    have c2 := hT.2 c (List.mem_of_getElem? x1)
    have c0 := ln_of x1
    have b2 : (T.length ≤ k + j) = False := propext ⟨fun h => by omega, False.elim⟩
    have ih' := ih (j + 1) m (by omega) (by omega)
    rw [hz, show k + (j + 1) = k + j + 1 by omega] at ih'
    rw [← ih']
    have e1 : k + j - k = j := by omega
    have l97 : 97 ≤ c := by
      unfold isL at x3
      simp at x3
      omega
    unfold f_X12_cutAll_70 f_X12_cutAll_121
    by_cases q : 8 ≤ j
    · simp (disch := first | (with_reducible assumption) | (simp only [oi_si, oi_sl, oi_sa, oi_sm, oi_sv, oi_sq, ol_si, ol_sl, ol_sa, ol_sm, ol_sv, ol_sq, oa_si, oa_sl, oa_sa, oa_sm, oa_sv, oa_sq, om_si, om_sl, om_sa, om_sm, om_sv, om_sq, ov_si, ov_sl, ov_sa, ov_sm, ov_sv, ov_sq, oq_si, oq_sl, oq_sa, oq_sm, oq_sv, oq_sq, Nat.reduceEqDiff, ↓reduceIte]; done) | omega | (exact ixn (by omega) (by omega)) | (exact ixl (by decide) (by decide)) | (simp only [pt_len, pl, z0, z1, z2, z3, z4, z5, z6, z7, z8, z9, z10, z11, z12]; omega)) only [↓gb_m, ↓gc_m, ↓gl_s, ↓gg_m, gb_s, gc_s, gg_t, gqm_0, gqm_1, pt_pt, sa_sa, sm_sm, si_si, qk12, qg12_0, qs12_0, qg12_1, qg12_2, qs12_2, qg12_3, qs12_3, qg12_4, qg12_5, qg12_6, qg12_7, qs12_7, qg12_8, qs12_8, qg12_9, qg12_10, qg12_11, qg12_12, qg12_13, qs12_13, qg12_14, qg12_15, qg12_16, qg12_17, qg12_18, qs12_18, qg12_19, qg12_20, qg12_21, qg12_22, qg12_23, qs12_23, qg12_24, qs12_24, qg12_25, qs12_25, qg12_26, qs12_26, qg12_27, qs12_27, qg12_28, qs12_28, qg12_29, qg12_30, qs12_30, qg12_31, qg12_32, qg12_33, qg12_34, qg12_35, qg12_36, qs12_36, qg12_37, qs12_37, qg12_38, qs12_38, qg12_39, qs12_39, qg12_40, qs12_40, qg12_41, qg12_42, qs12_42, qg12_43, qs12_43, qg12_44, qs12_44, qg12_45, qs12_45, qg12_46, qs12_46, qg12_47, qa12_1, qe12_1, ql12_1, qa12_4, qe12_4, ql12_4, qa12_5, qe12_5, ql12_5, qa12_6, qe12_6, ql12_6, qa12_9, qe12_9, ql12_9, qa12_10, qe12_10, ql12_10, qa12_11, qe12_11, ql12_11, qa12_12, qe12_12, ql12_12, qa12_14, qe12_14, ql12_14, qa12_15, qe12_15, ql12_15, qa12_16, qe12_16, ql12_16, qa12_17, qe12_17, ql12_17, qa12_19, qe12_19, ql12_19, qa12_20, qe12_20, ql12_20, qa12_21, qe12_21, ql12_21, qa12_22, qe12_22, ql12_22, qa12_29, qe12_29, ql12_29, qa12_31, qe12_31, ql12_31, qa12_32, qe12_32, ql12_32, qa12_33, qe12_33, ql12_33, qa12_34, qe12_34, ql12_34, qa12_35, qe12_35, ql12_35, qa12_41, qe12_41, ql12_41, qa12_47, qe12_47, ql12_47, oi_si, oi_sl, oi_sa, oi_sm, oi_sv, oi_sq, ol_si, ol_sl, ol_sa, ol_sm, ol_sv, ol_sq, oa_si, oa_sl, oa_sa, oa_sm, oa_sv, oa_sq, om_si, om_sl, om_sa, om_sm, om_sv, om_sq, ov_si, ov_sl, ov_sa, ov_sm, ov_sv, ov_sq, oq_si, oq_sl, oq_sa, oq_sm, oq_sv, oq_sq, Nat.reduceEqDiff, ↓reduceIte, n_add, n_addl, n_ladd, n_add1, n_mul, n_lmul, n_mull, n_sub, n_subl, n_subm, n_lt, n_le, n_eq, n_ltl, n_llt, n_lel, n_lle, n_eql, n_leq, n_m1, n_m1l, n_lt0, n_ge0, i_okc, i_okl, if_true, if_false, not_true, not_false, Nat.not_lt_zero, Nat.zero_le, hs, b2, c1, m_isLetter (show c < 1000 by omega), x3, eB0, Bool.true_eq_false, e1, q]
      rw [Nat.min_eq_right q, Nat.min_eq_right (by omega)]
    · have v : v37 (run.take (min (j + 1) 8)) = 37 * v37 (run.take (min j 8)) + (c - 96) := by
        rw [Nat.min_eq_left (by omega), Nat.min_eq_left (by omega), List.take_add_one, x2]
        unfold v37
        rw [List.foldl_append]
        rfl
      have m37 : ∀ a : Nat, (37 : Int64) * Int64.ofNat a = Int64.ofNat (37 * a) := fun a => l_mul 37 a
      rw [v]
      simp (disch := first | (with_reducible assumption) | (simp only [oi_si, oi_sl, oi_sa, oi_sm, oi_sv, oi_sq, ol_si, ol_sl, ol_sa, ol_sm, ol_sv, ol_sq, oa_si, oa_sl, oa_sa, oa_sm, oa_sv, oa_sq, om_si, om_sl, om_sa, om_sm, om_sv, om_sq, ov_si, ov_sl, ov_sa, ov_sm, ov_sv, ov_sq, oq_si, oq_sl, oq_sa, oq_sm, oq_sv, oq_sq, Nat.reduceEqDiff, ↓reduceIte]; done) | omega | (exact ixn (by omega) (by omega)) | (exact ixl (by decide) (by decide)) | (simp only [pt_len, pl, z0, z1, z2, z3, z4, z5, z6, z7, z8, z9, z10, z11, z12]; omega)) only [↓gb_m, ↓gc_m, ↓gl_s, ↓gg_m, gb_s, gc_s, gg_t, gqm_0, gqm_1, pt_pt, sa_sa, sm_sm, si_si, qk12, qg12_0, qs12_0, qg12_1, qg12_2, qs12_2, qg12_3, qs12_3, qg12_4, qg12_5, qg12_6, qg12_7, qs12_7, qg12_8, qs12_8, qg12_9, qg12_10, qg12_11, qg12_12, qg12_13, qs12_13, qg12_14, qg12_15, qg12_16, qg12_17, qg12_18, qs12_18, qg12_19, qg12_20, qg12_21, qg12_22, qg12_23, qs12_23, qg12_24, qs12_24, qg12_25, qs12_25, qg12_26, qs12_26, qg12_27, qs12_27, qg12_28, qs12_28, qg12_29, qg12_30, qs12_30, qg12_31, qg12_32, qg12_33, qg12_34, qg12_35, qg12_36, qs12_36, qg12_37, qs12_37, qg12_38, qs12_38, qg12_39, qs12_39, qg12_40, qs12_40, qg12_41, qg12_42, qs12_42, qg12_43, qs12_43, qg12_44, qs12_44, qg12_45, qs12_45, qg12_46, qs12_46, qg12_47, qa12_1, qe12_1, ql12_1, qa12_4, qe12_4, ql12_4, qa12_5, qe12_5, ql12_5, qa12_6, qe12_6, ql12_6, qa12_9, qe12_9, ql12_9, qa12_10, qe12_10, ql12_10, qa12_11, qe12_11, ql12_11, qa12_12, qe12_12, ql12_12, qa12_14, qe12_14, ql12_14, qa12_15, qe12_15, ql12_15, qa12_16, qe12_16, ql12_16, qa12_17, qe12_17, ql12_17, qa12_19, qe12_19, ql12_19, qa12_20, qe12_20, ql12_20, qa12_21, qe12_21, ql12_21, qa12_22, qe12_22, ql12_22, qa12_29, qe12_29, ql12_29, qa12_31, qe12_31, ql12_31, qa12_32, qe12_32, ql12_32, qa12_33, qe12_33, ql12_33, qa12_34, qe12_34, ql12_34, qa12_35, qe12_35, ql12_35, qa12_41, qe12_41, ql12_41, qa12_47, qe12_47, ql12_47, oi_si, oi_sl, oi_sa, oi_sm, oi_sv, oi_sq, ol_si, ol_sl, ol_sa, ol_sm, ol_sv, ol_sq, oa_si, oa_sl, oa_sa, oa_sm, oa_sv, oa_sq, om_si, om_sl, om_sa, om_sm, om_sv, om_sq, ov_si, ov_sl, ov_sa, ov_sm, ov_sv, ov_sq, oq_si, oq_sl, oq_sa, oq_sm, oq_sv, oq_sq, Nat.reduceEqDiff, ↓reduceIte, n_add, n_addl, n_ladd, n_add1, n_mul, n_lmul, n_mull, n_sub, n_subl, n_subm, n_lt, n_le, n_eq, n_ltl, n_llt, n_lel, n_lle, n_eql, n_leq, n_m1, n_m1l, n_lt0, n_ge0, i_okc, i_okl, if_true, if_false, not_true, not_false, Nat.not_lt_zero, Nat.zero_le, hs, b2, c1, m_isLetter (show c < 1000 by omega), m_rank (show c < 1000 by omega) x3, x3, eB0, Bool.true_eq_false, e1, q, i2l (show c - 96 < 2147483648 by omega), m37, l_add]
theorem m_cut159 (hF : 80 + 25 ≤ h.length) {M : OD} {T : List Nat} (hT : TOk T) (hs : oi M 3 = Int32.ofNat T.length) (hR : ∀ (k c : Nat), T[k]? = some c → oa M 1 k = Int32.ofNat c) (zk17 : (Nat × Int32 × Int32 × PH) → Option PH) {n : Int32} {k : Nat} (hk : k ≤ T.length) {run : List Nat} (hr : run = (T.drop k).takeWhile isD) : ∀ d j m, j + d = run.length → d < m → gi (fun zk zs => f_X12_cutAll_159 N zk17 zk zs.1 zs.2.1 zs.2.2.1 zs.2.2.2.1 zs.2.2.2.2.1 zs.2.2.2.2.2) m (80, n, Int32.ofNat (k + j), Int32.ofNat k, Int64.ofNat (v10 (run.take (min j 4))), pt sX12 80 M h) = f_X12_cutAll_218 N zk17 80 n (Int32.ofNat (k + run.length)) (Int32.ofNat k) (Int64.ofNat (v10 (run.take 4))) (pt sX12 80 M h) := by
  obtain ⟨w1, w2, w3⟩ := tw_at (p := isD) (T.drop k)
  rw [← hr] at w1 w2 w3
  rw [List.length_drop] at w3
  have hl := hT.1
  intro d
  induction d with
  | zero =>
    intro j m hj hm
    obtain ⟨m, rfl⟩ : ∃ k, m = k + 1 := ⟨m - 1, by omega⟩
    rw [gi_1]
    generalize hz : gi _ m = zk
    dsimp only
    have hj : j = run.length := by omega
    subst hj
    rw [tk4]
    unfold f_X12_cutAll_159
    rcases Nat.lt_or_ge (k + run.length) T.length with q | q
    · obtain ⟨c, hc⟩ : ∃ c, T[k + run.length]? = some c := ⟨_, List.getElem?_eq_getElem q⟩
      have c1 := hR _ c hc
      have c2 := hT.2 c (List.mem_of_getElem? hc)
      have c3 : isD c = false := w2 c (by rw [List.getElem?_drop]; exact hc)
      have b2 : (T.length ≤ k + run.length) = False := propext ⟨fun h => by omega, False.elim⟩
      simp (disch := first | (with_reducible assumption) | (simp only [oi_si, oi_sl, oi_sa, oi_sm, oi_sv, oi_sq, ol_si, ol_sl, ol_sa, ol_sm, ol_sv, ol_sq, oa_si, oa_sl, oa_sa, oa_sm, oa_sv, oa_sq, om_si, om_sl, om_sa, om_sm, om_sv, om_sq, ov_si, ov_sl, ov_sa, ov_sm, ov_sv, ov_sq, oq_si, oq_sl, oq_sa, oq_sm, oq_sv, oq_sq, Nat.reduceEqDiff, ↓reduceIte]; done) | omega | (exact ixn (by omega) (by omega)) | (exact ixl (by decide) (by decide)) | (simp only [pt_len, pl, z0, z1, z2, z3, z4, z5, z6, z7, z8, z9, z10, z11, z12]; omega)) only [↓gb_m, ↓gc_m, ↓gl_s, ↓gg_m, gb_s, gc_s, gg_t, gqm_0, gqm_1, pt_pt, sa_sa, sm_sm, si_si, qk12, qg12_0, qs12_0, qg12_1, qg12_2, qs12_2, qg12_3, qs12_3, qg12_4, qg12_5, qg12_6, qg12_7, qs12_7, qg12_8, qs12_8, qg12_9, qg12_10, qg12_11, qg12_12, qg12_13, qs12_13, qg12_14, qg12_15, qg12_16, qg12_17, qg12_18, qs12_18, qg12_19, qg12_20, qg12_21, qg12_22, qg12_23, qs12_23, qg12_24, qs12_24, qg12_25, qs12_25, qg12_26, qs12_26, qg12_27, qs12_27, qg12_28, qs12_28, qg12_29, qg12_30, qs12_30, qg12_31, qg12_32, qg12_33, qg12_34, qg12_35, qg12_36, qs12_36, qg12_37, qs12_37, qg12_38, qs12_38, qg12_39, qs12_39, qg12_40, qs12_40, qg12_41, qg12_42, qs12_42, qg12_43, qs12_43, qg12_44, qs12_44, qg12_45, qs12_45, qg12_46, qs12_46, qg12_47, qa12_1, qe12_1, ql12_1, qa12_4, qe12_4, ql12_4, qa12_5, qe12_5, ql12_5, qa12_6, qe12_6, ql12_6, qa12_9, qe12_9, ql12_9, qa12_10, qe12_10, ql12_10, qa12_11, qe12_11, ql12_11, qa12_12, qe12_12, ql12_12, qa12_14, qe12_14, ql12_14, qa12_15, qe12_15, ql12_15, qa12_16, qe12_16, ql12_16, qa12_17, qe12_17, ql12_17, qa12_19, qe12_19, ql12_19, qa12_20, qe12_20, ql12_20, qa12_21, qe12_21, ql12_21, qa12_22, qe12_22, ql12_22, qa12_29, qe12_29, ql12_29, qa12_31, qe12_31, ql12_31, qa12_32, qe12_32, ql12_32, qa12_33, qe12_33, ql12_33, qa12_34, qe12_34, ql12_34, qa12_35, qe12_35, ql12_35, qa12_41, qe12_41, ql12_41, qa12_47, qe12_47, ql12_47, oi_si, oi_sl, oi_sa, oi_sm, oi_sv, oi_sq, ol_si, ol_sl, ol_sa, ol_sm, ol_sv, ol_sq, oa_si, oa_sl, oa_sa, oa_sm, oa_sv, oa_sq, om_si, om_sl, om_sa, om_sm, om_sv, om_sq, ov_si, ov_sl, ov_sa, ov_sm, ov_sv, ov_sq, oq_si, oq_sl, oq_sa, oq_sm, oq_sv, oq_sq, Nat.reduceEqDiff, ↓reduceIte, n_add, n_addl, n_ladd, n_add1, n_mul, n_lmul, n_mull, n_sub, n_subl, n_subm, n_lt, n_le, n_eq, n_ltl, n_llt, n_lel, n_lle, n_eql, n_leq, n_m1, n_m1l, n_lt0, n_ge0, i_okc, i_okl, if_true, if_false, not_true, not_false, Nat.not_lt_zero, Nat.zero_le, hs, b2, c1, m_isDigit (show c < 1000 by omega), c3, eB0]
    · simp (disch := first | (with_reducible assumption) | (simp only [oi_si, oi_sl, oi_sa, oi_sm, oi_sv, oi_sq, ol_si, ol_sl, ol_sa, ol_sm, ol_sv, ol_sq, oa_si, oa_sl, oa_sa, oa_sm, oa_sv, oa_sq, om_si, om_sl, om_sa, om_sm, om_sv, om_sq, ov_si, ov_sl, ov_sa, ov_sm, ov_sv, ov_sq, oq_si, oq_sl, oq_sa, oq_sm, oq_sv, oq_sq, Nat.reduceEqDiff, ↓reduceIte]; done) | omega | (exact ixn (by omega) (by omega)) | (exact ixl (by decide) (by decide)) | (simp only [pt_len, pl, z0, z1, z2, z3, z4, z5, z6, z7, z8, z9, z10, z11, z12]; omega)) only [↓gb_m, ↓gc_m, ↓gl_s, ↓gg_m, gb_s, gc_s, gg_t, gqm_0, gqm_1, pt_pt, sa_sa, sm_sm, si_si, qk12, qg12_0, qs12_0, qg12_1, qg12_2, qs12_2, qg12_3, qs12_3, qg12_4, qg12_5, qg12_6, qg12_7, qs12_7, qg12_8, qs12_8, qg12_9, qg12_10, qg12_11, qg12_12, qg12_13, qs12_13, qg12_14, qg12_15, qg12_16, qg12_17, qg12_18, qs12_18, qg12_19, qg12_20, qg12_21, qg12_22, qg12_23, qs12_23, qg12_24, qs12_24, qg12_25, qs12_25, qg12_26, qs12_26, qg12_27, qs12_27, qg12_28, qs12_28, qg12_29, qg12_30, qs12_30, qg12_31, qg12_32, qg12_33, qg12_34, qg12_35, qg12_36, qs12_36, qg12_37, qs12_37, qg12_38, qs12_38, qg12_39, qs12_39, qg12_40, qs12_40, qg12_41, qg12_42, qs12_42, qg12_43, qs12_43, qg12_44, qs12_44, qg12_45, qs12_45, qg12_46, qs12_46, qg12_47, qa12_1, qe12_1, ql12_1, qa12_4, qe12_4, ql12_4, qa12_5, qe12_5, ql12_5, qa12_6, qe12_6, ql12_6, qa12_9, qe12_9, ql12_9, qa12_10, qe12_10, ql12_10, qa12_11, qe12_11, ql12_11, qa12_12, qe12_12, ql12_12, qa12_14, qe12_14, ql12_14, qa12_15, qe12_15, ql12_15, qa12_16, qe12_16, ql12_16, qa12_17, qe12_17, ql12_17, qa12_19, qe12_19, ql12_19, qa12_20, qe12_20, ql12_20, qa12_21, qe12_21, ql12_21, qa12_22, qe12_22, ql12_22, qa12_29, qe12_29, ql12_29, qa12_31, qe12_31, ql12_31, qa12_32, qe12_32, ql12_32, qa12_33, qe12_33, ql12_33, qa12_34, qe12_34, ql12_34, qa12_35, qe12_35, ql12_35, qa12_41, qe12_41, ql12_41, qa12_47, qe12_47, ql12_47, oi_si, oi_sl, oi_sa, oi_sm, oi_sv, oi_sq, ol_si, ol_sl, ol_sa, ol_sm, ol_sv, ol_sq, oa_si, oa_sl, oa_sa, oa_sm, oa_sv, oa_sq, om_si, om_sl, om_sa, om_sm, om_sv, om_sq, ov_si, ov_sl, ov_sa, ov_sm, ov_sv, ov_sq, oq_si, oq_sl, oq_sa, oq_sm, oq_sv, oq_sq, Nat.reduceEqDiff, ↓reduceIte, n_add, n_addl, n_ladd, n_add1, n_mul, n_lmul, n_mull, n_sub, n_subl, n_subm, n_lt, n_le, n_eq, n_ltl, n_llt, n_lel, n_lle, n_eql, n_leq, n_m1, n_m1l, n_lt0, n_ge0, i_okc, i_okl, if_true, if_false, not_true, not_false, Nat.not_lt_zero, Nat.zero_le, hs, q]
  | succ d ih =>
    intro j m hj hm
    obtain ⟨m, rfl⟩ : ∃ k, m = k + 1 := ⟨m - 1, by omega⟩
    rw [gi_1]
    generalize hz : gi _ m = zk
    dsimp only
    obtain ⟨c, x1, x2, x3⟩ := w1 j (by omega)
    rw [List.getElem?_drop] at x1
    have c1 := hR _ c x1
    have c2 := hT.2 c (List.mem_of_getElem? x1)
    have c0 := ln_of x1
    have b2 : (T.length ≤ k + j) = False := propext ⟨fun h => by omega, False.elim⟩
    have ih' := ih (j + 1) m (by omega) (by omega)
    rw [hz, show k + (j + 1) = k + j + 1 by omega] at ih'
    rw [← ih']
    have e1 : k + j - k = j := by omega
    have l48 : 48 ≤ c := by
      unfold isD at x3
      simp at x3
      omega
    unfold f_X12_cutAll_159 f_X12_cutAll_210
    by_cases q : 4 ≤ j
    · simp (disch := first | (with_reducible assumption) | (simp only [oi_si, oi_sl, oi_sa, oi_sm, oi_sv, oi_sq, ol_si, ol_sl, ol_sa, ol_sm, ol_sv, ol_sq, oa_si, oa_sl, oa_sa, oa_sm, oa_sv, oa_sq, om_si, om_sl, om_sa, om_sm, om_sv, om_sq, ov_si, ov_sl, ov_sa, ov_sm, ov_sv, ov_sq, oq_si, oq_sl, oq_sa, oq_sm, oq_sv, oq_sq, Nat.reduceEqDiff, ↓reduceIte]; done) | omega | (exact ixn (by omega) (by omega)) | (exact ixl (by decide) (by decide)) | (simp only [pt_len, pl, z0, z1, z2, z3, z4, z5, z6, z7, z8, z9, z10, z11, z12]; omega)) only [↓gb_m, ↓gc_m, ↓gl_s, ↓gg_m, gb_s, gc_s, gg_t, gqm_0, gqm_1, pt_pt, sa_sa, sm_sm, si_si, qk12, qg12_0, qs12_0, qg12_1, qg12_2, qs12_2, qg12_3, qs12_3, qg12_4, qg12_5, qg12_6, qg12_7, qs12_7, qg12_8, qs12_8, qg12_9, qg12_10, qg12_11, qg12_12, qg12_13, qs12_13, qg12_14, qg12_15, qg12_16, qg12_17, qg12_18, qs12_18, qg12_19, qg12_20, qg12_21, qg12_22, qg12_23, qs12_23, qg12_24, qs12_24, qg12_25, qs12_25, qg12_26, qs12_26, qg12_27, qs12_27, qg12_28, qs12_28, qg12_29, qg12_30, qs12_30, qg12_31, qg12_32, qg12_33, qg12_34, qg12_35, qg12_36, qs12_36, qg12_37, qs12_37, qg12_38, qs12_38, qg12_39, qs12_39, qg12_40, qs12_40, qg12_41, qg12_42, qs12_42, qg12_43, qs12_43, qg12_44, qs12_44, qg12_45, qs12_45, qg12_46, qs12_46, qg12_47, qa12_1, qe12_1, ql12_1, qa12_4, qe12_4, ql12_4, qa12_5, qe12_5, ql12_5, qa12_6, qe12_6, ql12_6, qa12_9, qe12_9, ql12_9, qa12_10, qe12_10, ql12_10, qa12_11, qe12_11, ql12_11, qa12_12, qe12_12, ql12_12, qa12_14, qe12_14, ql12_14, qa12_15, qe12_15, ql12_15, qa12_16, qe12_16, ql12_16, qa12_17, qe12_17, ql12_17, qa12_19, qe12_19, ql12_19, qa12_20, qe12_20, ql12_20, qa12_21, qe12_21, ql12_21, qa12_22, qe12_22, ql12_22, qa12_29, qe12_29, ql12_29, qa12_31, qe12_31, ql12_31, qa12_32, qe12_32, ql12_32, qa12_33, qe12_33, ql12_33, qa12_34, qe12_34, ql12_34, qa12_35, qe12_35, ql12_35, qa12_41, qe12_41, ql12_41, qa12_47, qe12_47, ql12_47, oi_si, oi_sl, oi_sa, oi_sm, oi_sv, oi_sq, ol_si, ol_sl, ol_sa, ol_sm, ol_sv, ol_sq, oa_si, oa_sl, oa_sa, oa_sm, oa_sv, oa_sq, om_si, om_sl, om_sa, om_sm, om_sv, om_sq, ov_si, ov_sl, ov_sa, ov_sm, ov_sv, ov_sq, oq_si, oq_sl, oq_sa, oq_sm, oq_sv, oq_sq, Nat.reduceEqDiff, ↓reduceIte, n_add, n_addl, n_ladd, n_add1, n_mul, n_lmul, n_mull, n_sub, n_subl, n_subm, n_lt, n_le, n_eq, n_ltl, n_llt, n_lel, n_lle, n_eql, n_leq, n_m1, n_m1l, n_lt0, n_ge0, i_okc, i_okl, if_true, if_false, not_true, not_false, Nat.not_lt_zero, Nat.zero_le, hs, b2, c1, m_isDigit (show c < 1000 by omega), x3, eB0, Bool.true_eq_false, e1, q]
      rw [Nat.min_eq_right q, Nat.min_eq_right (by omega)]
    · have v : v10 (run.take (min (j + 1) 4)) = 10 * v10 (run.take (min j 4)) + (c - 48) := by
        rw [Nat.min_eq_left (by omega), Nat.min_eq_left (by omega), List.take_add_one, x2]
        unfold v10
        rw [List.foldl_append]
        rfl
      have m10 : ∀ a : Nat, (10 : Int64) * Int64.ofNat a = Int64.ofNat (10 * a) := fun a => l_mul 10 a
      have s48 : ∀ a : Nat, 48 ≤ a → Int64.ofNat a - 48 = Int64.ofNat (a - 48) := fun a ha => l_sub ha
      have e2 : 10 * v10 (run.take (min j 4)) + c - 48 = 10 * v10 (run.take (min j 4)) + (c - 48) := by omega
      have s49 := s48 (10 * v10 (run.take (min j 4)) + c) (by omega)
      rw [v]
      simp (disch := first | (with_reducible assumption) | (simp only [oi_si, oi_sl, oi_sa, oi_sm, oi_sv, oi_sq, ol_si, ol_sl, ol_sa, ol_sm, ol_sv, ol_sq, oa_si, oa_sl, oa_sa, oa_sm, oa_sv, oa_sq, om_si, om_sl, om_sa, om_sm, om_sv, om_sq, ov_si, ov_sl, ov_sa, ov_sm, ov_sv, ov_sq, oq_si, oq_sl, oq_sa, oq_sm, oq_sv, oq_sq, Nat.reduceEqDiff, ↓reduceIte]; done) | omega | (exact ixn (by omega) (by omega)) | (exact ixl (by decide) (by decide)) | (simp only [pt_len, pl, z0, z1, z2, z3, z4, z5, z6, z7, z8, z9, z10, z11, z12]; omega)) only [↓gb_m, ↓gc_m, ↓gl_s, ↓gg_m, gb_s, gc_s, gg_t, gqm_0, gqm_1, pt_pt, sa_sa, sm_sm, si_si, qk12, qg12_0, qs12_0, qg12_1, qg12_2, qs12_2, qg12_3, qs12_3, qg12_4, qg12_5, qg12_6, qg12_7, qs12_7, qg12_8, qs12_8, qg12_9, qg12_10, qg12_11, qg12_12, qg12_13, qs12_13, qg12_14, qg12_15, qg12_16, qg12_17, qg12_18, qs12_18, qg12_19, qg12_20, qg12_21, qg12_22, qg12_23, qs12_23, qg12_24, qs12_24, qg12_25, qs12_25, qg12_26, qs12_26, qg12_27, qs12_27, qg12_28, qs12_28, qg12_29, qg12_30, qs12_30, qg12_31, qg12_32, qg12_33, qg12_34, qg12_35, qg12_36, qs12_36, qg12_37, qs12_37, qg12_38, qs12_38, qg12_39, qs12_39, qg12_40, qs12_40, qg12_41, qg12_42, qs12_42, qg12_43, qs12_43, qg12_44, qs12_44, qg12_45, qs12_45, qg12_46, qs12_46, qg12_47, qa12_1, qe12_1, ql12_1, qa12_4, qe12_4, ql12_4, qa12_5, qe12_5, ql12_5, qa12_6, qe12_6, ql12_6, qa12_9, qe12_9, ql12_9, qa12_10, qe12_10, ql12_10, qa12_11, qe12_11, ql12_11, qa12_12, qe12_12, ql12_12, qa12_14, qe12_14, ql12_14, qa12_15, qe12_15, ql12_15, qa12_16, qe12_16, ql12_16, qa12_17, qe12_17, ql12_17, qa12_19, qe12_19, ql12_19, qa12_20, qe12_20, ql12_20, qa12_21, qe12_21, ql12_21, qa12_22, qe12_22, ql12_22, qa12_29, qe12_29, ql12_29, qa12_31, qe12_31, ql12_31, qa12_32, qe12_32, ql12_32, qa12_33, qe12_33, ql12_33, qa12_34, qe12_34, ql12_34, qa12_35, qe12_35, ql12_35, qa12_41, qe12_41, ql12_41, qa12_47, qe12_47, ql12_47, oi_si, oi_sl, oi_sa, oi_sm, oi_sv, oi_sq, ol_si, ol_sl, ol_sa, ol_sm, ol_sv, ol_sq, oa_si, oa_sl, oa_sa, oa_sm, oa_sv, oa_sq, om_si, om_sl, om_sa, om_sm, om_sv, om_sq, ov_si, ov_sl, ov_sa, ov_sm, ov_sv, ov_sq, oq_si, oq_sl, oq_sa, oq_sm, oq_sv, oq_sq, Nat.reduceEqDiff, ↓reduceIte, n_add, n_addl, n_ladd, n_add1, n_mul, n_lmul, n_mull, n_sub, n_subl, n_subm, n_lt, n_le, n_eq, n_ltl, n_llt, n_lel, n_lle, n_eql, n_leq, n_m1, n_m1l, n_lt0, n_ge0, i_okc, i_okl, if_true, if_false, not_true, not_false, Nat.not_lt_zero, Nat.zero_le, hs, b2, c1, m_isDigit (show c < 1000 by omega), x3, eB0, Bool.true_eq_false, e1, q, i2l (show c < 2147483648 by omega), m10, l_add, s49, e2]
theorem RTs.push {M M' : OD} {l : List Tok} {x : Tok} (hR : RTs M l) (h4 : ∀ i, i < l.length → oa M' 4 i = oa M 4 i ∧ oa M' 5 i = oa M 5 i ∧ om M' 6 i = om M 6 i) (hx : RepTok M' l.length x) : RTs M' (l ++ [x]) := by
  intro i y hy
  rcases Nat.lt_or_ge i l.length with z | z
  · rw [List.getElem?_append_left z] at hy
    obtain ⟨a, b, c⟩ := h4 i z
    unfold RepTok
    rw [a, b, c]
    exact hR i y hy
  · have := ln_of hy
    rw [List.length_append] at this
    have this : i < l.length + 1 := this
    have hi : i = l.length := by omega
    subst hi
    rw [List.getElem?_append_right (Nat.le_refl _), Nat.sub_self] at hy
    cases hy
    exact hx
theorem m_cutAll17 (hF : 80 + 25 ≤ h.length) (hN : 2000 ≤ N) {T : List Nat} (hT : TOk T) : ∀ f k m M out, T.length ≤ k + f → k ≤ T.length → f + 1 < m → out.length + (T.length - k) ≤ 1000 → oi M 3 = Int32.ofNat T.length → (∀ (k c : Nat), T[k]? = some c → oa M 1 k = Int32.ofNat c) → RTs M out → ∃ M', gi (fun zk zs => f_X12_cutAll_17 N zk zs.1 zs.2.1 zs.2.2.1 zs.2.2.2) m (80, Int32.ofNat out.length, Int32.ofNat k, pt sX12 80 M h) = some (pt sX12 80 M' h) ∧ Keep [4, 5, 6, 7, 8] M M' ∧ RTs M' (out ++ tkz f k (T.drop k)) ∧ oi M' 7 = 0 ∧ oi M' 8 = 0 := by
  have hl := hT.1
  have endc : ∀ k m M out, k = T.length → 0 < m → out.length ≤ 1000 → oi M 3 = Int32.ofNat T.length → RTs M out → ∃ M', gi (fun zk zs => f_X12_cutAll_17 N zk zs.1 zs.2.1 zs.2.2.1 zs.2.2.2) m (80, Int32.ofNat out.length, Int32.ofNat k, pt sX12 80 M h) = some (pt sX12 80 M' h) ∧ Keep [4, 5, 6, 7, 8] M M' ∧ RTs M' (out ++ [(0, k, [])]) ∧ oi M' 7 = 0 ∧ oi M' 8 = 0 := by
    intro k m M out hk hm ho hs hR
    subst hk
    obtain ⟨m, rfl⟩ : ∃ k, m = k + 1 := ⟨m - 1, by omega⟩
    rw [gi_1]
    generalize hz : gi _ m = zk
    dsimp only
    unfold f_X12_cutAll_17
    simp (disch := first | (with_reducible assumption) | (simp only [oi_si, oi_sl, oi_sa, oi_sm, oi_sv, oi_sq, ol_si, ol_sl, ol_sa, ol_sm, ol_sv, ol_sq, oa_si, oa_sl, oa_sa, oa_sm, oa_sv, oa_sq, om_si, om_sl, om_sa, om_sm, om_sv, om_sq, ov_si, ov_sl, ov_sa, ov_sm, ov_sv, ov_sq, oq_si, oq_sl, oq_sa, oq_sm, oq_sv, oq_sq, Nat.reduceEqDiff, ↓reduceIte]; done) | omega | (exact ixn (by omega) (by omega)) | (exact ixl (by decide) (by decide)) | (simp only [pt_len, pl, z0, z1, z2, z3, z4, z5, z6, z7, z8, z9, z10, z11, z12]; omega)) only [↓gb_m, ↓gc_m, ↓gl_s, ↓gg_m, gb_s, gc_s, gg_t, gqm_0, gqm_1, pt_pt, sa_sa, sm_sm, si_si, qk12, qg12_0, qs12_0, qg12_1, qg12_2, qs12_2, qg12_3, qs12_3, qg12_4, qg12_5, qg12_6, qg12_7, qs12_7, qg12_8, qs12_8, qg12_9, qg12_10, qg12_11, qg12_12, qg12_13, qs12_13, qg12_14, qg12_15, qg12_16, qg12_17, qg12_18, qs12_18, qg12_19, qg12_20, qg12_21, qg12_22, qg12_23, qs12_23, qg12_24, qs12_24, qg12_25, qs12_25, qg12_26, qs12_26, qg12_27, qs12_27, qg12_28, qs12_28, qg12_29, qg12_30, qs12_30, qg12_31, qg12_32, qg12_33, qg12_34, qg12_35, qg12_36, qs12_36, qg12_37, qs12_37, qg12_38, qs12_38, qg12_39, qs12_39, qg12_40, qs12_40, qg12_41, qg12_42, qs12_42, qg12_43, qs12_43, qg12_44, qs12_44, qg12_45, qs12_45, qg12_46, qs12_46, qg12_47, qa12_1, qe12_1, ql12_1, qa12_4, qe12_4, ql12_4, qa12_5, qe12_5, ql12_5, qa12_6, qe12_6, ql12_6, qa12_9, qe12_9, ql12_9, qa12_10, qe12_10, ql12_10, qa12_11, qe12_11, ql12_11, qa12_12, qe12_12, ql12_12, qa12_14, qe12_14, ql12_14, qa12_15, qe12_15, ql12_15, qa12_16, qe12_16, ql12_16, qa12_17, qe12_17, ql12_17, qa12_19, qe12_19, ql12_19, qa12_20, qe12_20, ql12_20, qa12_21, qe12_21, ql12_21, qa12_22, qe12_22, ql12_22, qa12_29, qe12_29, ql12_29, qa12_31, qe12_31, ql12_31, qa12_32, qe12_32, ql12_32, qa12_33, qe12_33, ql12_33, qa12_34, qe12_34, ql12_34, qa12_35, qe12_35, ql12_35, qa12_41, qe12_41, ql12_41, qa12_47, qe12_47, ql12_47, oi_si, oi_sl, oi_sa, oi_sm, oi_sv, oi_sq, ol_si, ol_sl, ol_sa, ol_sm, ol_sv, ol_sq, oa_si, oa_sl, oa_sa, oa_sm, oa_sv, oa_sq, om_si, om_sl, om_sa, om_sm, om_sv, om_sq, ov_si, ov_sl, ov_sa, ov_sm, ov_sv, ov_sq, oq_si, oq_sl, oq_sa, oq_sm, oq_sv, oq_sq, Nat.reduceEqDiff, ↓reduceIte, n_add, n_addl, n_ladd, n_add1, n_mul, n_lmul, n_mull, n_sub, n_subl, n_subm, n_lt, n_le, n_eq, n_ltl, n_llt, n_lel, n_lle, n_eql, n_leq, n_m1, n_m1l, n_lt0, n_ge0, i_okc, i_okl, if_true, if_false, not_true, not_false, Nat.not_lt_zero, Nat.zero_le, hs, Nat.le_refl, gnar_0]
    refine ⟨_, rfl, ?_, ?_, ?_, ?_⟩
    · (repeat (first | exact Keep.rf | assumption | refine k_si2 ?_ (by decide) | refine k_sa2 ?_ (by decide) | refine k_sm2 ?_ (by decide) | refine k_sl2 ?_ (by decide) | refine k_sv2 ?_ (by decide)))
    · refine hR.push (fun i hi => ?_) ?_
      · simp only [oi_si, oi_sl, oi_sa, oi_sm, oi_sv, oi_sq, ol_si, ol_sl, ol_sa, ol_sm, ol_sv, ol_sq, oa_si, oa_sl, oa_sa, oa_sm, oa_sv, oa_sq, om_si, om_sl, om_sa, om_sm, om_sv, om_sq, ov_si, ov_sl, ov_sa, ov_sm, ov_sv, ov_sq, oq_si, oq_sl, oq_sa, oq_sm, oq_sv, oq_sq, Nat.reduceEqDiff, ↓reduceIte]
        rw [upd_ne (by omega), upd_ne (by omega)]
        exact ⟨rfl, rfl, trivial⟩
      · unfold RepTok
        simp only [oi_si, oi_sl, oi_sa, oi_sm, oi_sv, oi_sq, ol_si, ol_sl, ol_sa, ol_sm, ol_sv, ol_sq, oa_si, oa_sl, oa_sa, oa_sm, oa_sv, oa_sq, om_si, om_sl, om_sa, om_sm, om_sv, om_sq, ov_si, ov_sl, ov_sa, ov_sm, ov_sv, ov_sq, oq_si, oq_sl, oq_sa, oq_sm, oq_sv, oq_sq, Nat.reduceEqDiff, ↓reduceIte]
        rw [upd_eq rfl, upd_eq rfl]
        exact ⟨rfl, rfl, fun h => absurd h (by decide), fun h => absurd h (by decide), fun h => absurd h (by decide)⟩
    · simp only [oi_si, oi_sl, oi_sa, oi_sm, oi_sv, oi_sq, ol_si, ol_sl, ol_sa, ol_sm, ol_sv, ol_sq, oa_si, oa_sl, oa_sa, oa_sm, oa_sv, oa_sq, om_si, om_sl, om_sa, om_sm, om_sv, om_sq, ov_si, ov_sl, ov_sa, ov_sm, ov_sv, ov_sq, oq_si, oq_sl, oq_sa, oq_sm, oq_sv, oq_sq, Nat.reduceEqDiff, ↓reduceIte]
    · simp only [oi_si, oi_sl, oi_sa, oi_sm, oi_sv, oi_sq, ol_si, ol_sl, ol_sa, ol_sm, ol_sv, ol_sq, oa_si, oa_sl, oa_sa, oa_sm, oa_sv, oa_sq, om_si, om_sl, om_sa, om_sm, om_sv, om_sq, ov_si, ov_sl, ov_sa, ov_sm, ov_sv, ov_sq, oq_si, oq_sl, oq_sa, oq_sm, oq_sv, oq_sq, Nat.reduceEqDiff, ↓reduceIte]
  intro f
  induction f with
  | zero =>
    intro k m M out h1 h2 hm ho hs hT' hR
    exact endc k m M out (by omega) (by omega) (by omega) hs hR
  | succ f ih =>
    intro k m M out h1 h2 hm ho hs hT' hR
    rcases Nat.lt_or_ge k T.length with q | q
    · obtain ⟨c, hc⟩ : ∃ c, T[k]? = some c := ⟨_, List.getElem?_eq_getElem q⟩
      have c1 := hT' _ c hc
      have c2 := hT.2 c (List.mem_of_getElem? hc)
      have b2 : (T.length ≤ k) = False := propext ⟨fun h => by omega, False.elim⟩
      have dr : T.drop k = c :: T.drop (k + 1) := by
        rw [List.drop_eq_getElem_cons q]
        rw [List.getElem?_eq_getElem q] at hc
        cases hc
        rfl
      have isl := fun h => m_isLetter (N := N) (h := h) (show c < 1000 by omega)
      have isd := fun h => m_isDigit (N := N) (h := h) (show c < 1000 by omega)
      obtain ⟨m, rfl⟩ : ∃ k, m = k + 1 := ⟨m - 1, by omega⟩
      rw [gi_1]
      generalize hz : gi _ m = zk
      dsimp only
      unfold f_X12_cutAll_17 f_X12_cutAll_44
      rw [dr, tkz_c]
      by_cases q1 : isB c = true
      · rw [if_pos q1]
        obtain ⟨M', f1, f2⟩ := ih (k + 1) m M out (by omega) (by omega) (by omega) (by omega) hs hT' hR
        rw [hz] at f1
        refine ⟨M', ?_, f2⟩
        rw [← f1]
        unfold isB at q1
        simp only [Bool.or_eq_true, decide_eq_true_eq] at q1
        rcases q1 with q1 | q1
        · simp (disch := first | (with_reducible assumption) | (simp only [oi_si, oi_sl, oi_sa, oi_sm, oi_sv, oi_sq, ol_si, ol_sl, ol_sa, ol_sm, ol_sv, ol_sq, oa_si, oa_sl, oa_sa, oa_sm, oa_sv, oa_sq, om_si, om_sl, om_sa, om_sm, om_sv, om_sq, ov_si, ov_sl, ov_sa, ov_sm, ov_sv, ov_sq, oq_si, oq_sl, oq_sa, oq_sm, oq_sv, oq_sq, Nat.reduceEqDiff, ↓reduceIte]; done) | omega | (exact ixn (by omega) (by omega)) | (exact ixl (by decide) (by decide)) | (simp only [pt_len, pl, z0, z1, z2, z3, z4, z5, z6, z7, z8, z9, z10, z11, z12]; omega)) only [↓gb_m, ↓gc_m, ↓gl_s, ↓gg_m, gb_s, gc_s, gg_t, gqm_0, gqm_1, pt_pt, sa_sa, sm_sm, si_si, qk12, qg12_0, qs12_0, qg12_1, qg12_2, qs12_2, qg12_3, qs12_3, qg12_4, qg12_5, qg12_6, qg12_7, qs12_7, qg12_8, qs12_8, qg12_9, qg12_10, qg12_11, qg12_12, qg12_13, qs12_13, qg12_14, qg12_15, qg12_16, qg12_17, qg12_18, qs12_18, qg12_19, qg12_20, qg12_21, qg12_22, qg12_23, qs12_23, qg12_24, qs12_24, qg12_25, qs12_25, qg12_26, qs12_26, qg12_27, qs12_27, qg12_28, qs12_28, qg12_29, qg12_30, qs12_30, qg12_31, qg12_32, qg12_33, qg12_34, qg12_35, qg12_36, qs12_36, qg12_37, qs12_37, qg12_38, qs12_38, qg12_39, qs12_39, qg12_40, qs12_40, qg12_41, qg12_42, qs12_42, qg12_43, qs12_43, qg12_44, qs12_44, qg12_45, qs12_45, qg12_46, qs12_46, qg12_47, qa12_1, qe12_1, ql12_1, qa12_4, qe12_4, ql12_4, qa12_5, qe12_5, ql12_5, qa12_6, qe12_6, ql12_6, qa12_9, qe12_9, ql12_9, qa12_10, qe12_10, ql12_10, qa12_11, qe12_11, ql12_11, qa12_12, qe12_12, ql12_12, qa12_14, qe12_14, ql12_14, qa12_15, qe12_15, ql12_15, qa12_16, qe12_16, ql12_16, qa12_17, qe12_17, ql12_17, qa12_19, qe12_19, ql12_19, qa12_20, qe12_20, ql12_20, qa12_21, qe12_21, ql12_21, qa12_22, qe12_22, ql12_22, qa12_29, qe12_29, ql12_29, qa12_31, qe12_31, ql12_31, qa12_32, qe12_32, ql12_32, qa12_33, qe12_33, ql12_33, qa12_34, qe12_34, ql12_34, qa12_35, qe12_35, ql12_35, qa12_41, qe12_41, ql12_41, qa12_47, qe12_47, ql12_47, oi_si, oi_sl, oi_sa, oi_sm, oi_sv, oi_sq, ol_si, ol_sl, ol_sa, ol_sm, ol_sv, ol_sq, oa_si, oa_sl, oa_sa, oa_sm, oa_sv, oa_sq, om_si, om_sl, om_sa, om_sm, om_sv, om_sq, ov_si, ov_sl, ov_sa, ov_sm, ov_sv, ov_sq, oq_si, oq_sl, oq_sa, oq_sm, oq_sv, oq_sq, Nat.reduceEqDiff, ↓reduceIte, n_add, n_addl, n_ladd, n_add1, n_mul, n_lmul, n_mull, n_sub, n_subl, n_subm, n_lt, n_le, n_eq, n_ltl, n_llt, n_lel, n_lle, n_eql, n_leq, n_m1, n_m1l, n_lt0, n_ge0, i_okc, i_okl, if_true, if_false, not_true, not_false, Nat.not_lt_zero, Nat.zero_le, hs, b2, c1, q1]
        · subst q1
          simp (disch := first | (with_reducible assumption) | (simp only [oi_si, oi_sl, oi_sa, oi_sm, oi_sv, oi_sq, ol_si, ol_sl, ol_sa, ol_sm, ol_sv, ol_sq, oa_si, oa_sl, oa_sa, oa_sm, oa_sv, oa_sq, om_si, om_sl, om_sa, om_sm, om_sv, om_sq, ov_si, ov_sl, ov_sa, ov_sm, ov_sv, ov_sq, oq_si, oq_sl, oq_sa, oq_sm, oq_sv, oq_sq, Nat.reduceEqDiff, ↓reduceIte]; done) | omega | (exact ixn (by omega) (by omega)) | (exact ixl (by decide) (by decide)) | (simp only [pt_len, pl, z0, z1, z2, z3, z4, z5, z6, z7, z8, z9, z10, z11, z12]; omega)) only [↓gb_m, ↓gc_m, ↓gl_s, ↓gg_m, gb_s, gc_s, gg_t, gqm_0, gqm_1, pt_pt, sa_sa, sm_sm, si_si, qk12, qg12_0, qs12_0, qg12_1, qg12_2, qs12_2, qg12_3, qs12_3, qg12_4, qg12_5, qg12_6, qg12_7, qs12_7, qg12_8, qs12_8, qg12_9, qg12_10, qg12_11, qg12_12, qg12_13, qs12_13, qg12_14, qg12_15, qg12_16, qg12_17, qg12_18, qs12_18, qg12_19, qg12_20, qg12_21, qg12_22, qg12_23, qs12_23, qg12_24, qs12_24, qg12_25, qs12_25, qg12_26, qs12_26, qg12_27, qs12_27, qg12_28, qs12_28, qg12_29, qg12_30, qs12_30, qg12_31, qg12_32, qg12_33, qg12_34, qg12_35, qg12_36, qs12_36, qg12_37, qs12_37, qg12_38, qs12_38, qg12_39, qs12_39, qg12_40, qs12_40, qg12_41, qg12_42, qs12_42, qg12_43, qs12_43, qg12_44, qs12_44, qg12_45, qs12_45, qg12_46, qs12_46, qg12_47, qa12_1, qe12_1, ql12_1, qa12_4, qe12_4, ql12_4, qa12_5, qe12_5, ql12_5, qa12_6, qe12_6, ql12_6, qa12_9, qe12_9, ql12_9, qa12_10, qe12_10, ql12_10, qa12_11, qe12_11, ql12_11, qa12_12, qe12_12, ql12_12, qa12_14, qe12_14, ql12_14, qa12_15, qe12_15, ql12_15, qa12_16, qe12_16, ql12_16, qa12_17, qe12_17, ql12_17, qa12_19, qe12_19, ql12_19, qa12_20, qe12_20, ql12_20, qa12_21, qe12_21, ql12_21, qa12_22, qe12_22, ql12_22, qa12_29, qe12_29, ql12_29, qa12_31, qe12_31, ql12_31, qa12_32, qe12_32, ql12_32, qa12_33, qe12_33, ql12_33, qa12_34, qe12_34, ql12_34, qa12_35, qe12_35, ql12_35, qa12_41, qe12_41, ql12_41, qa12_47, qe12_47, ql12_47, oi_si, oi_sl, oi_sa, oi_sm, oi_sv, oi_sq, ol_si, ol_sl, ol_sa, ol_sm, ol_sv, ol_sq, oa_si, oa_sl, oa_sa, oa_sm, oa_sv, oa_sq, om_si, om_sl, om_sa, om_sm, om_sv, om_sq, ov_si, ov_sl, ov_sa, ov_sm, ov_sv, ov_sq, oq_si, oq_sl, oq_sa, oq_sm, oq_sv, oq_sq, Nat.reduceEqDiff, ↓reduceIte, n_add, n_addl, n_ladd, n_add1, n_mul, n_lmul, n_mull, n_sub, n_subl, n_subm, n_lt, n_le, n_eq, n_ltl, n_llt, n_lel, n_lle, n_eql, n_leq, n_m1, n_m1l, n_lt0, n_ge0, i_okc, i_okl, if_true, if_false, not_true, not_false, Nat.not_lt_zero, Nat.zero_le, hs, b2, c1]
      · rw [if_neg q1]
        have q1' : c ≠ 10 ∧ c ≠ 32 := by
          unfold isB at q1
          simp only [Bool.or_eq_true, decide_eq_true_eq] at q1
          omega
        obtain ⟨qa, qb⟩ := q1'
        by_cases q2 : isL c = true
        · rw [if_pos q2, ← dr]
          generalize hr : (T.drop k).takeWhile isL = run
          obtain ⟨w1, w2, w3⟩ := tw_at (p := isL) (T.drop k)
          rw [hr, List.length_drop] at w3
          have w4 : 1 ≤ run.length := by
            rw [← hr, dr, List.takeWhile_cons, q2]
            simp
          rw [List.drop_drop]
          have kk : Keep [5] M (sa M 5 (upd (oa M 5) out.length (Int32.ofNat k))) := k_sa (by decide)
          have l := m_cut70 (N := N) hF hT (M := sa M 5 (upd (oa M 5) out.length (Int32.ofNat k))) hs hT' zk (n := Int32.ofNat out.length) h2 hr.symm run.length 0 N (by omega) (by omega)
          have l : gi (fun zk_1 zs => f_X12_cutAll_70 N zk zk_1 zs.1 zs.2.1 zs.2.2.1 zs.2.2.2.1 zs.2.2.2.2.1 zs.2.2.2.2.2) N (80, Int32.ofNat out.length, Int32.ofNat k, Int32.ofNat k, 0, pt sX12 80 (sa M 5 (upd (oa M 5) out.length (Int32.ofNat k))) h) = _ := l
          obtain ⟨M', f1, f2, f3, f4⟩ := ih (k + run.length) m (sm (sa (sa M 5 (upd (oa M 5) out.length (Int32.ofNat k))) 4 (upd (oa M 4) out.length (Int32.ofNat (if run.length ≤ 8 then 1 else 4)))) 6 (vp_updL (om M 6) out.length (Int64.ofNat (v37 (run.take 8))))) (out ++ [(if run.length ≤ 8 then 1 else 4, k, run)]) (by omega) (by omega) (by omega) (by rw [List.length_append]; show out.length + 1 + _ ≤ _; omega) hs hT' (by
            refine hR.push (fun i hi => ?_) ?_
            · simp only [oi_si, oi_sl, oi_sa, oi_sm, oi_sv, oi_sq, ol_si, ol_sl, ol_sa, ol_sm, ol_sv, ol_sq, oa_si, oa_sl, oa_sa, oa_sm, oa_sv, oa_sq, om_si, om_sl, om_sa, om_sm, om_sv, om_sq, ov_si, ov_sl, ov_sa, ov_sm, ov_sv, ov_sq, oq_si, oq_sl, oq_sa, oq_sm, oq_sv, oq_sq, Nat.reduceEqDiff, ↓reduceIte]
              rw [upd_ne (by omega), upd_ne (by omega), updL_ne (by omega)]
              exact ⟨rfl, rfl, rfl⟩
            · unfold RepTok
              simp only [oi_si, oi_sl, oi_sa, oi_sm, oi_sv, oi_sq, ol_si, ol_sl, ol_sa, ol_sm, ol_sv, ol_sq, oa_si, oa_sl, oa_sa, oa_sm, oa_sv, oa_sq, om_si, om_sl, om_sa, om_sm, om_sv, om_sq, ov_si, ov_sl, ov_sa, ov_sm, ov_sv, ov_sq, oq_si, oq_sl, oq_sa, oq_sm, oq_sv, oq_sq, Nat.reduceEqDiff, ↓reduceIte]
              rw [upd_eq rfl, upd_eq rfl, updL_eq rfl]
              refine ⟨rfl, rfl, fun h => ?_, fun h => ?_, fun h => ?_⟩
              · split at h
                · rename_i q5
                  rw [List.take_of_length_le q5]
                · cases h
              · split at h <;> cases h
              · split at h <;> cases h)
          rw [hz, List.length_append, List.length_singleton] at f1
          refine ⟨M', ?_, ?_, ?_, f4⟩
          · rw [← f1]
            have e1 : k + run.length - k = run.length := by omega
            simp (disch := first | (with_reducible assumption) | (simp only [oi_si, oi_sl, oi_sa, oi_sm, oi_sv, oi_sq, ol_si, ol_sl, ol_sa, ol_sm, ol_sv, ol_sq, oa_si, oa_sl, oa_sa, oa_sm, oa_sv, oa_sq, om_si, om_sl, om_sa, om_sm, om_sv, om_sq, ov_si, ov_sl, ov_sa, ov_sm, ov_sv, ov_sq, oq_si, oq_sl, oq_sa, oq_sm, oq_sv, oq_sq, Nat.reduceEqDiff, ↓reduceIte]; done) | omega | (exact ixn (by omega) (by omega)) | (exact ixl (by decide) (by decide)) | (simp only [pt_len, pl, z0, z1, z2, z3, z4, z5, z6, z7, z8, z9, z10, z11, z12]; omega)) only [↓gb_m, ↓gc_m, ↓gl_s, ↓gg_m, gb_s, gc_s, gg_t, gqm_0, gqm_1, pt_pt, sa_sa, sm_sm, si_si, qk12, qg12_0, qs12_0, qg12_1, qg12_2, qs12_2, qg12_3, qs12_3, qg12_4, qg12_5, qg12_6, qg12_7, qs12_7, qg12_8, qs12_8, qg12_9, qg12_10, qg12_11, qg12_12, qg12_13, qs12_13, qg12_14, qg12_15, qg12_16, qg12_17, qg12_18, qs12_18, qg12_19, qg12_20, qg12_21, qg12_22, qg12_23, qs12_23, qg12_24, qs12_24, qg12_25, qs12_25, qg12_26, qs12_26, qg12_27, qs12_27, qg12_28, qs12_28, qg12_29, qg12_30, qs12_30, qg12_31, qg12_32, qg12_33, qg12_34, qg12_35, qg12_36, qs12_36, qg12_37, qs12_37, qg12_38, qs12_38, qg12_39, qs12_39, qg12_40, qs12_40, qg12_41, qg12_42, qs12_42, qg12_43, qs12_43, qg12_44, qs12_44, qg12_45, qs12_45, qg12_46, qs12_46, qg12_47, qa12_1, qe12_1, ql12_1, qa12_4, qe12_4, ql12_4, qa12_5, qe12_5, ql12_5, qa12_6, qe12_6, ql12_6, qa12_9, qe12_9, ql12_9, qa12_10, qe12_10, ql12_10, qa12_11, qe12_11, ql12_11, qa12_12, qe12_12, ql12_12, qa12_14, qe12_14, ql12_14, qa12_15, qe12_15, ql12_15, qa12_16, qe12_16, ql12_16, qa12_17, qe12_17, ql12_17, qa12_19, qe12_19, ql12_19, qa12_20, qe12_20, ql12_20, qa12_21, qe12_21, ql12_21, qa12_22, qe12_22, ql12_22, qa12_29, qe12_29, ql12_29, qa12_31, qe12_31, ql12_31, qa12_32, qe12_32, ql12_32, qa12_33, qe12_33, ql12_33, qa12_34, qe12_34, ql12_34, qa12_35, qe12_35, ql12_35, qa12_41, qe12_41, ql12_41, qa12_47, qe12_47, ql12_47, oi_si, oi_sl, oi_sa, oi_sm, oi_sv, oi_sq, ol_si, ol_sl, ol_sa, ol_sm, ol_sv, ol_sq, oa_si, oa_sl, oa_sa, oa_sm, oa_sv, oa_sq, om_si, om_sl, om_sa, om_sm, om_sv, om_sq, ov_si, ov_sl, ov_sa, ov_sm, ov_sv, ov_sq, oq_si, oq_sl, oq_sa, oq_sm, oq_sv, oq_sq, Nat.reduceEqDiff, ↓reduceIte, n_add, n_addl, n_ladd, n_add1, n_mul, n_lmul, n_mull, n_sub, n_subl, n_subm, n_lt, n_le, n_eq, n_ltl, n_llt, n_lel, n_lle, n_eql, n_leq, n_m1, n_m1l, n_lt0, n_ge0, i_okc, i_okl, if_true, if_false, not_true, not_false, Nat.not_lt_zero, Nat.zero_le, hs, b2, c1, qa, qb, isl, q2, eB0, Bool.true_eq_false, gnar_0, l]
            unfold f_X12_cutAll_129 f_X12_cutAll_148 f_X12_cutAll_265
            by_cases q5 : run.length ≤ 8
            · rw [if_pos q5]
              simp (disch := first | (with_reducible assumption) | (simp only [oi_si, oi_sl, oi_sa, oi_sm, oi_sv, oi_sq, ol_si, ol_sl, ol_sa, ol_sm, ol_sv, ol_sq, oa_si, oa_sl, oa_sa, oa_sm, oa_sv, oa_sq, om_si, om_sl, om_sa, om_sm, om_sv, om_sq, ov_si, ov_sl, ov_sa, ov_sm, ov_sv, ov_sq, oq_si, oq_sl, oq_sa, oq_sm, oq_sv, oq_sq, Nat.reduceEqDiff, ↓reduceIte]; done) | omega | (exact ixn (by omega) (by omega)) | (exact ixl (by decide) (by decide)) | (simp only [pt_len, pl, z0, z1, z2, z3, z4, z5, z6, z7, z8, z9, z10, z11, z12]; omega)) only [↓gb_m, ↓gc_m, ↓gl_s, ↓gg_m, gb_s, gc_s, gg_t, gqm_0, gqm_1, pt_pt, sa_sa, sm_sm, si_si, qk12, qg12_0, qs12_0, qg12_1, qg12_2, qs12_2, qg12_3, qs12_3, qg12_4, qg12_5, qg12_6, qg12_7, qs12_7, qg12_8, qs12_8, qg12_9, qg12_10, qg12_11, qg12_12, qg12_13, qs12_13, qg12_14, qg12_15, qg12_16, qg12_17, qg12_18, qs12_18, qg12_19, qg12_20, qg12_21, qg12_22, qg12_23, qs12_23, qg12_24, qs12_24, qg12_25, qs12_25, qg12_26, qs12_26, qg12_27, qs12_27, qg12_28, qs12_28, qg12_29, qg12_30, qs12_30, qg12_31, qg12_32, qg12_33, qg12_34, qg12_35, qg12_36, qs12_36, qg12_37, qs12_37, qg12_38, qs12_38, qg12_39, qs12_39, qg12_40, qs12_40, qg12_41, qg12_42, qs12_42, qg12_43, qs12_43, qg12_44, qs12_44, qg12_45, qs12_45, qg12_46, qs12_46, qg12_47, qa12_1, qe12_1, ql12_1, qa12_4, qe12_4, ql12_4, qa12_5, qe12_5, ql12_5, qa12_6, qe12_6, ql12_6, qa12_9, qe12_9, ql12_9, qa12_10, qe12_10, ql12_10, qa12_11, qe12_11, ql12_11, qa12_12, qe12_12, ql12_12, qa12_14, qe12_14, ql12_14, qa12_15, qe12_15, ql12_15, qa12_16, qe12_16, ql12_16, qa12_17, qe12_17, ql12_17, qa12_19, qe12_19, ql12_19, qa12_20, qe12_20, ql12_20, qa12_21, qe12_21, ql12_21, qa12_22, qe12_22, ql12_22, qa12_29, qe12_29, ql12_29, qa12_31, qe12_31, ql12_31, qa12_32, qe12_32, ql12_32, qa12_33, qe12_33, ql12_33, qa12_34, qe12_34, ql12_34, qa12_35, qe12_35, ql12_35, qa12_41, qe12_41, ql12_41, qa12_47, qe12_47, ql12_47, oi_si, oi_sl, oi_sa, oi_sm, oi_sv, oi_sq, ol_si, ol_sl, ol_sa, ol_sm, ol_sv, ol_sq, oa_si, oa_sl, oa_sa, oa_sm, oa_sv, oa_sq, om_si, om_sl, om_sa, om_sm, om_sv, om_sq, ov_si, ov_sl, ov_sa, ov_sm, ov_sv, ov_sq, oq_si, oq_sl, oq_sa, oq_sm, oq_sv, oq_sq, Nat.reduceEqDiff, ↓reduceIte, n_add, n_addl, n_ladd, n_add1, n_mul, n_lmul, n_mull, n_sub, n_subl, n_subm, n_lt, n_le, n_eq, n_ltl, n_llt, n_lel, n_lle, n_eql, n_leq, n_m1, n_m1l, n_lt0, n_ge0, i_okc, i_okl, if_true, if_false, not_true, not_false, Nat.not_lt_zero, Nat.zero_le, e1, q5, gnar_0]
              rfl
            · rw [if_neg q5]
              simp (disch := first | (with_reducible assumption) | (simp only [oi_si, oi_sl, oi_sa, oi_sm, oi_sv, oi_sq, ol_si, ol_sl, ol_sa, ol_sm, ol_sv, ol_sq, oa_si, oa_sl, oa_sa, oa_sm, oa_sv, oa_sq, om_si, om_sl, om_sa, om_sm, om_sv, om_sq, ov_si, ov_sl, ov_sa, ov_sm, ov_sv, ov_sq, oq_si, oq_sl, oq_sa, oq_sm, oq_sv, oq_sq, Nat.reduceEqDiff, ↓reduceIte]; done) | omega | (exact ixn (by omega) (by omega)) | (exact ixl (by decide) (by decide)) | (simp only [pt_len, pl, z0, z1, z2, z3, z4, z5, z6, z7, z8, z9, z10, z11, z12]; omega)) only [↓gb_m, ↓gc_m, ↓gl_s, ↓gg_m, gb_s, gc_s, gg_t, gqm_0, gqm_1, pt_pt, sa_sa, sm_sm, si_si, qk12, qg12_0, qs12_0, qg12_1, qg12_2, qs12_2, qg12_3, qs12_3, qg12_4, qg12_5, qg12_6, qg12_7, qs12_7, qg12_8, qs12_8, qg12_9, qg12_10, qg12_11, qg12_12, qg12_13, qs12_13, qg12_14, qg12_15, qg12_16, qg12_17, qg12_18, qs12_18, qg12_19, qg12_20, qg12_21, qg12_22, qg12_23, qs12_23, qg12_24, qs12_24, qg12_25, qs12_25, qg12_26, qs12_26, qg12_27, qs12_27, qg12_28, qs12_28, qg12_29, qg12_30, qs12_30, qg12_31, qg12_32, qg12_33, qg12_34, qg12_35, qg12_36, qs12_36, qg12_37, qs12_37, qg12_38, qs12_38, qg12_39, qs12_39, qg12_40, qs12_40, qg12_41, qg12_42, qs12_42, qg12_43, qs12_43, qg12_44, qs12_44, qg12_45, qs12_45, qg12_46, qs12_46, qg12_47, qa12_1, qe12_1, ql12_1, qa12_4, qe12_4, ql12_4, qa12_5, qe12_5, ql12_5, qa12_6, qe12_6, ql12_6, qa12_9, qe12_9, ql12_9, qa12_10, qe12_10, ql12_10, qa12_11, qe12_11, ql12_11, qa12_12, qe12_12, ql12_12, qa12_14, qe12_14, ql12_14, qa12_15, qe12_15, ql12_15, qa12_16, qe12_16, ql12_16, qa12_17, qe12_17, ql12_17, qa12_19, qe12_19, ql12_19, qa12_20, qe12_20, ql12_20, qa12_21, qe12_21, ql12_21, qa12_22, qe12_22, ql12_22, qa12_29, qe12_29, ql12_29, qa12_31, qe12_31, ql12_31, qa12_32, qe12_32, ql12_32, qa12_33, qe12_33, ql12_33, qa12_34, qe12_34, ql12_34, qa12_35, qe12_35, ql12_35, qa12_41, qe12_41, ql12_41, qa12_47, qe12_47, ql12_47, oi_si, oi_sl, oi_sa, oi_sm, oi_sv, oi_sq, ol_si, ol_sl, ol_sa, ol_sm, ol_sv, ol_sq, oa_si, oa_sl, oa_sa, oa_sm, oa_sv, oa_sq, om_si, om_sl, om_sa, om_sm, om_sv, om_sq, ov_si, ov_sl, ov_sa, ov_sm, ov_sv, ov_sq, oq_si, oq_sl, oq_sa, oq_sm, oq_sv, oq_sq, Nat.reduceEqDiff, ↓reduceIte, n_add, n_addl, n_ladd, n_add1, n_mul, n_lmul, n_mull, n_sub, n_subl, n_subm, n_lt, n_le, n_eq, n_ltl, n_llt, n_lel, n_lle, n_eql, n_leq, n_m1, n_m1l, n_lt0, n_ge0, i_okc, i_okl, if_true, if_false, not_true, not_false, Nat.not_lt_zero, Nat.zero_le, e1, q5, gnar_0]
              rfl
          · refine Keep.tr ?_ f2
            (repeat (first | exact Keep.rf | assumption | refine k_si2 ?_ (by decide) | refine k_sa2 ?_ (by decide) | refine k_sm2 ?_ (by decide) | refine k_sl2 ?_ (by decide) | refine k_sv2 ?_ (by decide)))
          · rw [List.append_assoc] at f3
            exact f3
        · rw [if_neg q2]
          have q2' : isL c = false := by rw [← Bool.not_eq_true]; exact q2
          by_cases q3 : isD c = true
          · rw [if_pos q3, ← dr]
            generalize hr : (T.drop k).takeWhile isD = run
            obtain ⟨w1, w2, w3⟩ := tw_at (p := isD) (T.drop k)
            rw [hr, List.length_drop] at w3
            have w4 : 1 ≤ run.length := by
              rw [← hr, dr, List.takeWhile_cons, q3]
              simp
            rw [List.drop_drop]
            have l := m_cut159 (N := N) hF hT (M := sa M 5 (upd (oa M 5) out.length (Int32.ofNat k))) hs hT' zk (n := Int32.ofNat out.length) h2 hr.symm run.length 0 N (by omega) (by omega)
            have l : gi (fun zk_1 zs => f_X12_cutAll_159 N zk zk_1 zs.1 zs.2.1 zs.2.2.1 zs.2.2.2.1 zs.2.2.2.2.1 zs.2.2.2.2.2) N (80, Int32.ofNat out.length, Int32.ofNat k, Int32.ofNat k, 0, pt sX12 80 (sa M 5 (upd (oa M 5) out.length (Int32.ofNat k))) h) = _ := l
            obtain ⟨M', f1, f2, f3, f4⟩ := ih (k + run.length) m (sm (sa (sa M 5 (upd (oa M 5) out.length (Int32.ofNat k))) 4 (upd (oa M 4) out.length (Int32.ofNat (if run.length ≤ 4 then 2 else 4)))) 6 (vp_updL (om M 6) out.length (Int64.ofNat (v10 (run.take 4))))) (out ++ [(if run.length ≤ 4 then 2 else 4, k, run)]) (by omega) (by omega) (by omega) (by rw [List.length_append]; show out.length + 1 + _ ≤ _; omega) hs hT' (by
              refine hR.push (fun i hi => ?_) ?_
              · simp only [oi_si, oi_sl, oi_sa, oi_sm, oi_sv, oi_sq, ol_si, ol_sl, ol_sa, ol_sm, ol_sv, ol_sq, oa_si, oa_sl, oa_sa, oa_sm, oa_sv, oa_sq, om_si, om_sl, om_sa, om_sm, om_sv, om_sq, ov_si, ov_sl, ov_sa, ov_sm, ov_sv, ov_sq, oq_si, oq_sl, oq_sa, oq_sm, oq_sv, oq_sq, Nat.reduceEqDiff, ↓reduceIte]
                rw [upd_ne (by omega), upd_ne (by omega), updL_ne (by omega)]
                exact ⟨rfl, rfl, rfl⟩
              · unfold RepTok
                simp only [oi_si, oi_sl, oi_sa, oi_sm, oi_sv, oi_sq, ol_si, ol_sl, ol_sa, ol_sm, ol_sv, ol_sq, oa_si, oa_sl, oa_sa, oa_sm, oa_sv, oa_sq, om_si, om_sl, om_sa, om_sm, om_sv, om_sq, ov_si, ov_sl, ov_sa, ov_sm, ov_sv, ov_sq, oq_si, oq_sl, oq_sa, oq_sm, oq_sv, oq_sq, Nat.reduceEqDiff, ↓reduceIte]
                rw [upd_eq rfl, upd_eq rfl, updL_eq rfl]
                refine ⟨rfl, rfl, fun h => ?_, fun h => ?_, fun h => ?_⟩
                · split at h <;> cases h
                · split at h
                  · rename_i q5
                    rw [List.take_of_length_le q5]
                  · cases h
                · split at h <;> cases h)
            rw [hz, List.length_append, List.length_singleton] at f1
            refine ⟨M', ?_, ?_, ?_, f4⟩
            · rw [← f1]
              have e1 : k + run.length - k = run.length := by omega
              simp (disch := first | (with_reducible assumption) | (simp only [oi_si, oi_sl, oi_sa, oi_sm, oi_sv, oi_sq, ol_si, ol_sl, ol_sa, ol_sm, ol_sv, ol_sq, oa_si, oa_sl, oa_sa, oa_sm, oa_sv, oa_sq, om_si, om_sl, om_sa, om_sm, om_sv, om_sq, ov_si, ov_sl, ov_sa, ov_sm, ov_sv, ov_sq, oq_si, oq_sl, oq_sa, oq_sm, oq_sv, oq_sq, Nat.reduceEqDiff, ↓reduceIte]; done) | omega | (exact ixn (by omega) (by omega)) | (exact ixl (by decide) (by decide)) | (simp only [pt_len, pl, z0, z1, z2, z3, z4, z5, z6, z7, z8, z9, z10, z11, z12]; omega)) only [↓gb_m, ↓gc_m, ↓gl_s, ↓gg_m, gb_s, gc_s, gg_t, gqm_0, gqm_1, pt_pt, sa_sa, sm_sm, si_si, qk12, qg12_0, qs12_0, qg12_1, qg12_2, qs12_2, qg12_3, qs12_3, qg12_4, qg12_5, qg12_6, qg12_7, qs12_7, qg12_8, qs12_8, qg12_9, qg12_10, qg12_11, qg12_12, qg12_13, qs12_13, qg12_14, qg12_15, qg12_16, qg12_17, qg12_18, qs12_18, qg12_19, qg12_20, qg12_21, qg12_22, qg12_23, qs12_23, qg12_24, qs12_24, qg12_25, qs12_25, qg12_26, qs12_26, qg12_27, qs12_27, qg12_28, qs12_28, qg12_29, qg12_30, qs12_30, qg12_31, qg12_32, qg12_33, qg12_34, qg12_35, qg12_36, qs12_36, qg12_37, qs12_37, qg12_38, qs12_38, qg12_39, qs12_39, qg12_40, qs12_40, qg12_41, qg12_42, qs12_42, qg12_43, qs12_43, qg12_44, qs12_44, qg12_45, qs12_45, qg12_46, qs12_46, qg12_47, qa12_1, qe12_1, ql12_1, qa12_4, qe12_4, ql12_4, qa12_5, qe12_5, ql12_5, qa12_6, qe12_6, ql12_6, qa12_9, qe12_9, ql12_9, qa12_10, qe12_10, ql12_10, qa12_11, qe12_11, ql12_11, qa12_12, qe12_12, ql12_12, qa12_14, qe12_14, ql12_14, qa12_15, qe12_15, ql12_15, qa12_16, qe12_16, ql12_16, qa12_17, qe12_17, ql12_17, qa12_19, qe12_19, ql12_19, qa12_20, qe12_20, ql12_20, qa12_21, qe12_21, ql12_21, qa12_22, qe12_22, ql12_22, qa12_29, qe12_29, ql12_29, qa12_31, qe12_31, ql12_31, qa12_32, qe12_32, ql12_32, qa12_33, qe12_33, ql12_33, qa12_34, qe12_34, ql12_34, qa12_35, qe12_35, ql12_35, qa12_41, qe12_41, ql12_41, qa12_47, qe12_47, ql12_47, oi_si, oi_sl, oi_sa, oi_sm, oi_sv, oi_sq, ol_si, ol_sl, ol_sa, ol_sm, ol_sv, ol_sq, oa_si, oa_sl, oa_sa, oa_sm, oa_sv, oa_sq, om_si, om_sl, om_sa, om_sm, om_sv, om_sq, ov_si, ov_sl, ov_sa, ov_sm, ov_sv, ov_sq, oq_si, oq_sl, oq_sa, oq_sm, oq_sv, oq_sq, Nat.reduceEqDiff, ↓reduceIte, n_add, n_addl, n_ladd, n_add1, n_mul, n_lmul, n_mull, n_sub, n_subl, n_subm, n_lt, n_le, n_eq, n_ltl, n_llt, n_lel, n_lle, n_eql, n_leq, n_m1, n_m1l, n_lt0, n_ge0, i_okc, i_okl, if_true, if_false, not_true, not_false, Nat.not_lt_zero, Nat.zero_le, hs, b2, c1, qa, qb, isl, isd, q2', q3, eB0, Bool.true_eq_false, gnar_0, l]
              unfold f_X12_cutAll_218 f_X12_cutAll_236 f_X12_cutAll_265
              by_cases q5 : run.length ≤ 4
              · rw [if_pos q5]
                simp (disch := first | (with_reducible assumption) | (simp only [oi_si, oi_sl, oi_sa, oi_sm, oi_sv, oi_sq, ol_si, ol_sl, ol_sa, ol_sm, ol_sv, ol_sq, oa_si, oa_sl, oa_sa, oa_sm, oa_sv, oa_sq, om_si, om_sl, om_sa, om_sm, om_sv, om_sq, ov_si, ov_sl, ov_sa, ov_sm, ov_sv, ov_sq, oq_si, oq_sl, oq_sa, oq_sm, oq_sv, oq_sq, Nat.reduceEqDiff, ↓reduceIte]; done) | omega | (exact ixn (by omega) (by omega)) | (exact ixl (by decide) (by decide)) | (simp only [pt_len, pl, z0, z1, z2, z3, z4, z5, z6, z7, z8, z9, z10, z11, z12]; omega)) only [↓gb_m, ↓gc_m, ↓gl_s, ↓gg_m, gb_s, gc_s, gg_t, gqm_0, gqm_1, pt_pt, sa_sa, sm_sm, si_si, qk12, qg12_0, qs12_0, qg12_1, qg12_2, qs12_2, qg12_3, qs12_3, qg12_4, qg12_5, qg12_6, qg12_7, qs12_7, qg12_8, qs12_8, qg12_9, qg12_10, qg12_11, qg12_12, qg12_13, qs12_13, qg12_14, qg12_15, qg12_16, qg12_17, qg12_18, qs12_18, qg12_19, qg12_20, qg12_21, qg12_22, qg12_23, qs12_23, qg12_24, qs12_24, qg12_25, qs12_25, qg12_26, qs12_26, qg12_27, qs12_27, qg12_28, qs12_28, qg12_29, qg12_30, qs12_30, qg12_31, qg12_32, qg12_33, qg12_34, qg12_35, qg12_36, qs12_36, qg12_37, qs12_37, qg12_38, qs12_38, qg12_39, qs12_39, qg12_40, qs12_40, qg12_41, qg12_42, qs12_42, qg12_43, qs12_43, qg12_44, qs12_44, qg12_45, qs12_45, qg12_46, qs12_46, qg12_47, qa12_1, qe12_1, ql12_1, qa12_4, qe12_4, ql12_4, qa12_5, qe12_5, ql12_5, qa12_6, qe12_6, ql12_6, qa12_9, qe12_9, ql12_9, qa12_10, qe12_10, ql12_10, qa12_11, qe12_11, ql12_11, qa12_12, qe12_12, ql12_12, qa12_14, qe12_14, ql12_14, qa12_15, qe12_15, ql12_15, qa12_16, qe12_16, ql12_16, qa12_17, qe12_17, ql12_17, qa12_19, qe12_19, ql12_19, qa12_20, qe12_20, ql12_20, qa12_21, qe12_21, ql12_21, qa12_22, qe12_22, ql12_22, qa12_29, qe12_29, ql12_29, qa12_31, qe12_31, ql12_31, qa12_32, qe12_32, ql12_32, qa12_33, qe12_33, ql12_33, qa12_34, qe12_34, ql12_34, qa12_35, qe12_35, ql12_35, qa12_41, qe12_41, ql12_41, qa12_47, qe12_47, ql12_47, oi_si, oi_sl, oi_sa, oi_sm, oi_sv, oi_sq, ol_si, ol_sl, ol_sa, ol_sm, ol_sv, ol_sq, oa_si, oa_sl, oa_sa, oa_sm, oa_sv, oa_sq, om_si, om_sl, om_sa, om_sm, om_sv, om_sq, ov_si, ov_sl, ov_sa, ov_sm, ov_sv, ov_sq, oq_si, oq_sl, oq_sa, oq_sm, oq_sv, oq_sq, Nat.reduceEqDiff, ↓reduceIte, n_add, n_addl, n_ladd, n_add1, n_mul, n_lmul, n_mull, n_sub, n_subl, n_subm, n_lt, n_le, n_eq, n_ltl, n_llt, n_lel, n_lle, n_eql, n_leq, n_m1, n_m1l, n_lt0, n_ge0, i_okc, i_okl, if_true, if_false, not_true, not_false, Nat.not_lt_zero, Nat.zero_le, e1, q5, gnar_0]
                rfl
              · rw [if_neg q5]
                simp (disch := first | (with_reducible assumption) | (simp only [oi_si, oi_sl, oi_sa, oi_sm, oi_sv, oi_sq, ol_si, ol_sl, ol_sa, ol_sm, ol_sv, ol_sq, oa_si, oa_sl, oa_sa, oa_sm, oa_sv, oa_sq, om_si, om_sl, om_sa, om_sm, om_sv, om_sq, ov_si, ov_sl, ov_sa, ov_sm, ov_sv, ov_sq, oq_si, oq_sl, oq_sa, oq_sm, oq_sv, oq_sq, Nat.reduceEqDiff, ↓reduceIte]; done) | omega | (exact ixn (by omega) (by omega)) | (exact ixl (by decide) (by decide)) | (simp only [pt_len, pl, z0, z1, z2, z3, z4, z5, z6, z7, z8, z9, z10, z11, z12]; omega)) only [↓gb_m, ↓gc_m, ↓gl_s, ↓gg_m, gb_s, gc_s, gg_t, gqm_0, gqm_1, pt_pt, sa_sa, sm_sm, si_si, qk12, qg12_0, qs12_0, qg12_1, qg12_2, qs12_2, qg12_3, qs12_3, qg12_4, qg12_5, qg12_6, qg12_7, qs12_7, qg12_8, qs12_8, qg12_9, qg12_10, qg12_11, qg12_12, qg12_13, qs12_13, qg12_14, qg12_15, qg12_16, qg12_17, qg12_18, qs12_18, qg12_19, qg12_20, qg12_21, qg12_22, qg12_23, qs12_23, qg12_24, qs12_24, qg12_25, qs12_25, qg12_26, qs12_26, qg12_27, qs12_27, qg12_28, qs12_28, qg12_29, qg12_30, qs12_30, qg12_31, qg12_32, qg12_33, qg12_34, qg12_35, qg12_36, qs12_36, qg12_37, qs12_37, qg12_38, qs12_38, qg12_39, qs12_39, qg12_40, qs12_40, qg12_41, qg12_42, qs12_42, qg12_43, qs12_43, qg12_44, qs12_44, qg12_45, qs12_45, qg12_46, qs12_46, qg12_47, qa12_1, qe12_1, ql12_1, qa12_4, qe12_4, ql12_4, qa12_5, qe12_5, ql12_5, qa12_6, qe12_6, ql12_6, qa12_9, qe12_9, ql12_9, qa12_10, qe12_10, ql12_10, qa12_11, qe12_11, ql12_11, qa12_12, qe12_12, ql12_12, qa12_14, qe12_14, ql12_14, qa12_15, qe12_15, ql12_15, qa12_16, qe12_16, ql12_16, qa12_17, qe12_17, ql12_17, qa12_19, qe12_19, ql12_19, qa12_20, qe12_20, ql12_20, qa12_21, qe12_21, ql12_21, qa12_22, qe12_22, ql12_22, qa12_29, qe12_29, ql12_29, qa12_31, qe12_31, ql12_31, qa12_32, qe12_32, ql12_32, qa12_33, qe12_33, ql12_33, qa12_34, qe12_34, ql12_34, qa12_35, qe12_35, ql12_35, qa12_41, qe12_41, ql12_41, qa12_47, qe12_47, ql12_47, oi_si, oi_sl, oi_sa, oi_sm, oi_sv, oi_sq, ol_si, ol_sl, ol_sa, ol_sm, ol_sv, ol_sq, oa_si, oa_sl, oa_sa, oa_sm, oa_sv, oa_sq, om_si, om_sl, om_sa, om_sm, om_sv, om_sq, ov_si, ov_sl, ov_sa, ov_sm, ov_sv, ov_sq, oq_si, oq_sl, oq_sa, oq_sm, oq_sv, oq_sq, Nat.reduceEqDiff, ↓reduceIte, n_add, n_addl, n_ladd, n_add1, n_mul, n_lmul, n_mull, n_sub, n_subl, n_subm, n_lt, n_le, n_eq, n_ltl, n_llt, n_lel, n_lle, n_eql, n_leq, n_m1, n_m1l, n_lt0, n_ge0, i_okc, i_okl, if_true, if_false, not_true, not_false, Nat.not_lt_zero, Nat.zero_le, e1, q5, gnar_0]
                rfl
            · refine Keep.tr ?_ f2
              (repeat (first | exact Keep.rf | assumption | refine k_si2 ?_ (by decide) | refine k_sa2 ?_ (by decide) | refine k_sm2 ?_ (by decide) | refine k_sl2 ?_ (by decide) | refine k_sv2 ?_ (by decide)))
            · rw [List.append_assoc] at f3
              exact f3
          · rw [if_neg q3]
            have q3' : isD c = false := by rw [← Bool.not_eq_true]; exact q3
            obtain ⟨M', f1, f2, f3, f4⟩ := ih (k + 1) m (sm (sa (sa M 5 (upd (oa M 5) out.length (Int32.ofNat k))) 4 (upd (oa M 4) out.length (Int32.ofNat (if isS c = true then 3 else 4)))) 6 (vp_updL (om M 6) out.length (Int64.ofNat c))) (out ++ [(if isS c = true then 3 else 4, k, [c])]) (by omega) (by omega) (by omega) (by rw [List.length_append]; show out.length + 1 + _ ≤ _; omega) hs hT' (by
              refine hR.push (fun i hi => ?_) ?_
              · simp only [oi_si, oi_sl, oi_sa, oi_sm, oi_sv, oi_sq, ol_si, ol_sl, ol_sa, ol_sm, ol_sv, ol_sq, oa_si, oa_sl, oa_sa, oa_sm, oa_sv, oa_sq, om_si, om_sl, om_sa, om_sm, om_sv, om_sq, ov_si, ov_sl, ov_sa, ov_sm, ov_sv, ov_sq, oq_si, oq_sl, oq_sa, oq_sm, oq_sv, oq_sq, Nat.reduceEqDiff, ↓reduceIte]
                rw [upd_ne (by omega), upd_ne (by omega), updL_ne (by omega)]
                exact ⟨rfl, rfl, rfl⟩
              · unfold RepTok
                simp only [oi_si, oi_sl, oi_sa, oi_sm, oi_sv, oi_sq, ol_si, ol_sl, ol_sa, ol_sm, ol_sv, ol_sq, oa_si, oa_sl, oa_sa, oa_sm, oa_sv, oa_sq, om_si, om_sl, om_sa, om_sm, om_sv, om_sq, ov_si, ov_sl, ov_sa, ov_sm, ov_sv, ov_sq, oq_si, oq_sl, oq_sa, oq_sm, oq_sv, oq_sq, Nat.reduceEqDiff, ↓reduceIte]
                rw [upd_eq rfl, upd_eq rfl, updL_eq rfl]
                refine ⟨rfl, rfl, fun h => ?_, fun h => ?_, fun h x hx => ?_⟩
                · split at h <;> cases h
                · split at h <;> cases h
                · cases hx
                  rfl)
            rw [hz, List.length_append, List.length_singleton] at f1
            refine ⟨M', ?_, ?_, ?_, f4⟩
            · rw [← f1]
              have iss := m_isSignOf c (by omega) N
              unfold f_X12_cutAll_261 f_X12_cutAll_265
              cases q5 : isS c with
              | true =>
                simp (disch := first | (with_reducible assumption) | (simp only [oi_si, oi_sl, oi_sa, oi_sm, oi_sv, oi_sq, ol_si, ol_sl, ol_sa, ol_sm, ol_sv, ol_sq, oa_si, oa_sl, oa_sa, oa_sm, oa_sv, oa_sq, om_si, om_sl, om_sa, om_sm, om_sv, om_sq, ov_si, ov_sl, ov_sa, ov_sm, ov_sv, ov_sq, oq_si, oq_sl, oq_sa, oq_sm, oq_sv, oq_sq, Nat.reduceEqDiff, ↓reduceIte]; done) | omega | (exact ixn (by omega) (by omega)) | (exact ixl (by decide) (by decide)) | (simp only [pt_len, pl, z0, z1, z2, z3, z4, z5, z6, z7, z8, z9, z10, z11, z12]; omega)) only [↓gb_m, ↓gc_m, ↓gl_s, ↓gg_m, gb_s, gc_s, gg_t, gqm_0, gqm_1, pt_pt, sa_sa, sm_sm, si_si, qk12, qg12_0, qs12_0, qg12_1, qg12_2, qs12_2, qg12_3, qs12_3, qg12_4, qg12_5, qg12_6, qg12_7, qs12_7, qg12_8, qs12_8, qg12_9, qg12_10, qg12_11, qg12_12, qg12_13, qs12_13, qg12_14, qg12_15, qg12_16, qg12_17, qg12_18, qs12_18, qg12_19, qg12_20, qg12_21, qg12_22, qg12_23, qs12_23, qg12_24, qs12_24, qg12_25, qs12_25, qg12_26, qs12_26, qg12_27, qs12_27, qg12_28, qs12_28, qg12_29, qg12_30, qs12_30, qg12_31, qg12_32, qg12_33, qg12_34, qg12_35, qg12_36, qs12_36, qg12_37, qs12_37, qg12_38, qs12_38, qg12_39, qs12_39, qg12_40, qs12_40, qg12_41, qg12_42, qs12_42, qg12_43, qs12_43, qg12_44, qs12_44, qg12_45, qs12_45, qg12_46, qs12_46, qg12_47, qa12_1, qe12_1, ql12_1, qa12_4, qe12_4, ql12_4, qa12_5, qe12_5, ql12_5, qa12_6, qe12_6, ql12_6, qa12_9, qe12_9, ql12_9, qa12_10, qe12_10, ql12_10, qa12_11, qe12_11, ql12_11, qa12_12, qe12_12, ql12_12, qa12_14, qe12_14, ql12_14, qa12_15, qe12_15, ql12_15, qa12_16, qe12_16, ql12_16, qa12_17, qe12_17, ql12_17, qa12_19, qe12_19, ql12_19, qa12_20, qe12_20, ql12_20, qa12_21, qe12_21, ql12_21, qa12_22, qe12_22, ql12_22, qa12_29, qe12_29, ql12_29, qa12_31, qe12_31, ql12_31, qa12_32, qe12_32, ql12_32, qa12_33, qe12_33, ql12_33, qa12_34, qe12_34, ql12_34, qa12_35, qe12_35, ql12_35, qa12_41, qe12_41, ql12_41, qa12_47, qe12_47, ql12_47, oi_si, oi_sl, oi_sa, oi_sm, oi_sv, oi_sq, ol_si, ol_sl, ol_sa, ol_sm, ol_sv, ol_sq, oa_si, oa_sl, oa_sa, oa_sm, oa_sv, oa_sq, om_si, om_sl, om_sa, om_sm, om_sv, om_sq, ov_si, ov_sl, ov_sa, ov_sm, ov_sv, ov_sq, oq_si, oq_sl, oq_sa, oq_sm, oq_sv, oq_sq, Nat.reduceEqDiff, ↓reduceIte, n_add, n_addl, n_ladd, n_add1, n_mul, n_lmul, n_mull, n_sub, n_subl, n_subm, n_lt, n_le, n_eq, n_ltl, n_llt, n_lel, n_lle, n_eql, n_leq, n_m1, n_m1l, n_lt0, n_ge0, i_okc, i_okl, if_true, if_false, not_true, not_false, Nat.not_lt_zero, Nat.zero_le, hs, b2, c1, qa, qb, isl, isd, q2', q3', iss, q5, eB0, Bool.true_eq_false, gnar_0, i2l (show c < 2147483648 by omega)]
                rfl
              | false =>
                simp (disch := first | (with_reducible assumption) | (simp only [oi_si, oi_sl, oi_sa, oi_sm, oi_sv, oi_sq, ol_si, ol_sl, ol_sa, ol_sm, ol_sv, ol_sq, oa_si, oa_sl, oa_sa, oa_sm, oa_sv, oa_sq, om_si, om_sl, om_sa, om_sm, om_sv, om_sq, ov_si, ov_sl, ov_sa, ov_sm, ov_sv, ov_sq, oq_si, oq_sl, oq_sa, oq_sm, oq_sv, oq_sq, Nat.reduceEqDiff, ↓reduceIte]; done) | omega | (exact ixn (by omega) (by omega)) | (exact ixl (by decide) (by decide)) | (simp only [pt_len, pl, z0, z1, z2, z3, z4, z5, z6, z7, z8, z9, z10, z11, z12]; omega)) only [↓gb_m, ↓gc_m, ↓gl_s, ↓gg_m, gb_s, gc_s, gg_t, gqm_0, gqm_1, pt_pt, sa_sa, sm_sm, si_si, qk12, qg12_0, qs12_0, qg12_1, qg12_2, qs12_2, qg12_3, qs12_3, qg12_4, qg12_5, qg12_6, qg12_7, qs12_7, qg12_8, qs12_8, qg12_9, qg12_10, qg12_11, qg12_12, qg12_13, qs12_13, qg12_14, qg12_15, qg12_16, qg12_17, qg12_18, qs12_18, qg12_19, qg12_20, qg12_21, qg12_22, qg12_23, qs12_23, qg12_24, qs12_24, qg12_25, qs12_25, qg12_26, qs12_26, qg12_27, qs12_27, qg12_28, qs12_28, qg12_29, qg12_30, qs12_30, qg12_31, qg12_32, qg12_33, qg12_34, qg12_35, qg12_36, qs12_36, qg12_37, qs12_37, qg12_38, qs12_38, qg12_39, qs12_39, qg12_40, qs12_40, qg12_41, qg12_42, qs12_42, qg12_43, qs12_43, qg12_44, qs12_44, qg12_45, qs12_45, qg12_46, qs12_46, qg12_47, qa12_1, qe12_1, ql12_1, qa12_4, qe12_4, ql12_4, qa12_5, qe12_5, ql12_5, qa12_6, qe12_6, ql12_6, qa12_9, qe12_9, ql12_9, qa12_10, qe12_10, ql12_10, qa12_11, qe12_11, ql12_11, qa12_12, qe12_12, ql12_12, qa12_14, qe12_14, ql12_14, qa12_15, qe12_15, ql12_15, qa12_16, qe12_16, ql12_16, qa12_17, qe12_17, ql12_17, qa12_19, qe12_19, ql12_19, qa12_20, qe12_20, ql12_20, qa12_21, qe12_21, ql12_21, qa12_22, qe12_22, ql12_22, qa12_29, qe12_29, ql12_29, qa12_31, qe12_31, ql12_31, qa12_32, qe12_32, ql12_32, qa12_33, qe12_33, ql12_33, qa12_34, qe12_34, ql12_34, qa12_35, qe12_35, ql12_35, qa12_41, qe12_41, ql12_41, qa12_47, qe12_47, ql12_47, oi_si, oi_sl, oi_sa, oi_sm, oi_sv, oi_sq, ol_si, ol_sl, ol_sa, ol_sm, ol_sv, ol_sq, oa_si, oa_sl, oa_sa, oa_sm, oa_sv, oa_sq, om_si, om_sl, om_sa, om_sm, om_sv, om_sq, ov_si, ov_sl, ov_sa, ov_sm, ov_sv, ov_sq, oq_si, oq_sl, oq_sa, oq_sm, oq_sv, oq_sq, Nat.reduceEqDiff, ↓reduceIte, n_add, n_addl, n_ladd, n_add1, n_mul, n_lmul, n_mull, n_sub, n_subl, n_subm, n_lt, n_le, n_eq, n_ltl, n_llt, n_lel, n_lle, n_eql, n_leq, n_m1, n_m1l, n_lt0, n_ge0, i_okc, i_okl, if_true, if_false, not_true, not_false, Nat.not_lt_zero, Nat.zero_le, hs, b2, c1, qa, qb, isl, isd, q2', q3', iss, q5, eB0, Bool.true_eq_false, gnar_0, i2l (show c < 2147483648 by omega), Bool.false_eq_true]
                rfl
            · refine Keep.tr ?_ f2
              (repeat (first | exact Keep.rf | assumption | refine k_si2 ?_ (by decide) | refine k_sa2 ?_ (by decide) | refine k_sm2 ?_ (by decide) | refine k_sl2 ?_ (by decide) | refine k_sv2 ?_ (by decide)))
            · rw [List.append_assoc] at f3
              exact f3
    · rw [List.drop_of_length_le q]
      exact endc k m M out (by omega) (by omega) (by omega) hs hR
theorem m_cutAll (hF : 80 + 25 ≤ h.length) (hN : 2000 ≤ N) {M : OD} {T : List Nat} (hT : TOk T) (hR : RepT T M) : ∃ M', f_X12_cutAll N 80 (pt sX12 80 M h) = some (pt sX12 80 M' h) ∧ Keep [2, 3, 4, 5, 6, 7, 8] M M' ∧ RTs M' (toks T) ∧ oi M' 7 = 0 ∧ oi M' 8 = 0 ∧ oi M' 2 = 0 := by
  have hl := hT.1
  obtain ⟨M', f1, f2, f3, f4, f5⟩ := m_cutAll17 (N := N) hF hN hT T.length 0 N (si (si M 3 (Int32.ofNat T.length)) 2 0) [] (by omega) (by omega) (by omega) (by simpa using hl) (by simp only [oi_si, oi_sl, oi_sa, oi_sm, oi_sv, oi_sq, ol_si, ol_sl, ol_sa, ol_sm, ol_sv, ol_sq, oa_si, oa_sl, oa_sa, oa_sm, oa_sv, oa_sq, om_si, om_sl, om_sa, om_sm, om_sv, om_sq, ov_si, ov_sl, ov_sa, ov_sm, ov_sv, ov_sq, oq_si, oq_sl, oq_sa, oq_sm, oq_sv, oq_sq, Nat.reduceEqDiff, ↓reduceIte]) (fun k c hc => hR.2 k c hc) (fun i x hx => by cases hx)
  refine ⟨M', ?_, ((k_si (by decide)).tr (k_si (by decide))).tr (f2.up (by decide)), f3, f4, f5, ?_⟩
  · unfold f_X12_cutAll
    simp (disch := first | (with_reducible assumption) | (simp only [oi_si, oi_sl, oi_sa, oi_sm, oi_sv, oi_sq, ol_si, ol_sl, ol_sa, ol_sm, ol_sv, ol_sq, oa_si, oa_sl, oa_sa, oa_sm, oa_sv, oa_sq, om_si, om_sl, om_sa, om_sm, om_sv, om_sq, ov_si, ov_sl, ov_sa, ov_sm, ov_sv, ov_sq, oq_si, oq_sl, oq_sa, oq_sm, oq_sv, oq_sq, Nat.reduceEqDiff, ↓reduceIte]; done) | omega | (exact ixn (by omega) (by omega)) | (exact ixl (by decide) (by decide)) | (simp only [pt_len, pl, z0, z1, z2, z3, z4, z5, z6, z7, z8, z9, z10, z11, z12]; omega)) only [↓gb_m, ↓gc_m, ↓gl_s, ↓gg_m, gb_s, gc_s, gg_t, gqm_0, gqm_1, pt_pt, sa_sa, sm_sm, si_si, qk12, qg12_0, qs12_0, qg12_1, qg12_2, qs12_2, qg12_3, qs12_3, qg12_4, qg12_5, qg12_6, qg12_7, qs12_7, qg12_8, qs12_8, qg12_9, qg12_10, qg12_11, qg12_12, qg12_13, qs12_13, qg12_14, qg12_15, qg12_16, qg12_17, qg12_18, qs12_18, qg12_19, qg12_20, qg12_21, qg12_22, qg12_23, qs12_23, qg12_24, qs12_24, qg12_25, qs12_25, qg12_26, qs12_26, qg12_27, qs12_27, qg12_28, qs12_28, qg12_29, qg12_30, qs12_30, qg12_31, qg12_32, qg12_33, qg12_34, qg12_35, qg12_36, qs12_36, qg12_37, qs12_37, qg12_38, qs12_38, qg12_39, qs12_39, qg12_40, qs12_40, qg12_41, qg12_42, qs12_42, qg12_43, qs12_43, qg12_44, qs12_44, qg12_45, qs12_45, qg12_46, qs12_46, qg12_47, qa12_1, qe12_1, ql12_1, qa12_4, qe12_4, ql12_4, qa12_5, qe12_5, ql12_5, qa12_6, qe12_6, ql12_6, qa12_9, qe12_9, ql12_9, qa12_10, qe12_10, ql12_10, qa12_11, qe12_11, ql12_11, qa12_12, qe12_12, ql12_12, qa12_14, qe12_14, ql12_14, qa12_15, qe12_15, ql12_15, qa12_16, qe12_16, ql12_16, qa12_17, qe12_17, ql12_17, qa12_19, qe12_19, ql12_19, qa12_20, qe12_20, ql12_20, qa12_21, qe12_21, ql12_21, qa12_22, qe12_22, ql12_22, qa12_29, qe12_29, ql12_29, qa12_31, qe12_31, ql12_31, qa12_32, qe12_32, ql12_32, qa12_33, qe12_33, ql12_33, qa12_34, qe12_34, ql12_34, qa12_35, qe12_35, ql12_35, qa12_41, qe12_41, ql12_41, qa12_47, qe12_47, ql12_47, oi_si, oi_sl, oi_sa, oi_sm, oi_sv, oi_sq, ol_si, ol_sl, ol_sa, ol_sm, ol_sv, ol_sq, oa_si, oa_sl, oa_sa, oa_sm, oa_sv, oa_sq, om_si, om_sl, om_sa, om_sm, om_sv, om_sq, ov_si, ov_sl, ov_sa, ov_sm, ov_sv, ov_sq, oq_si, oq_sl, oq_sa, oq_sm, oq_sv, oq_sq, Nat.reduceEqDiff, ↓reduceIte, n_add, n_addl, n_ladd, n_add1, n_mul, n_lmul, n_mull, n_sub, n_subl, n_subm, n_lt, n_le, n_eq, n_ltl, n_llt, n_lel, n_lle, n_eql, n_leq, n_m1, n_m1l, n_lt0, n_ge0, i_okc, i_okl, if_true, if_false, not_true, not_false, Nat.not_lt_zero, Nat.zero_le, hR.1]
    exact f1
  · rw [f2.i (by decide)]
    simp only [oi_si, oi_sl, oi_sa, oi_sm, oi_sv, oi_sq, ol_si, ol_sl, ol_sa, ol_sm, ol_sv, ol_sq, oa_si, oa_sl, oa_sa, oa_sm, oa_sv, oa_sq, om_si, om_sl, om_sa, om_sm, om_sv, om_sq, ov_si, ov_sl, ov_sa, ov_sm, ov_sv, ov_sq, oq_si, oq_sl, oq_sa, oq_sm, oq_sv, oq_sq, Nat.reduceEqDiff, ↓reduceIte]
end MCut

