/-! The component reads: tokens -/
theorem tkz_fu : ∀ n m, m ≤ n → ∀ p l, l.length ≤ m → tkz m p l = tkz l.length p l := by
  intro n
  induction n with
  | zero =>
    intro m hm p l hl
    have h1 : m = 0 := by omega
    have h2 : l = [] := List.eq_nil_of_length_eq_zero (by omega)
    subst h1
    subst h2
    rfl
  | succ n ih =>
    intro m hm p l hl
    cases l with
    | nil =>
      cases m with
      | zero => rfl
      | succ m => rfl
    | cons c cs =>
      obtain ⟨m, rfl⟩ : ∃ k, m = k + 1 := ⟨m - 1, by rw [List.length_cons] at hl; omega⟩
      rw [List.length_cons] at hl
      have hl : cs.length ≤ m := by omega
      have two : ∀ p' l', l'.length ≤ cs.length → tkz m p' l' = tkz cs.length p' l' := fun p' l' h' => by
        rw [ih m (by omega) p' l' (by omega), ih cs.length (by omega) p' l' h']
      rw [List.length_cons, tkz_c, tkz_c]
      by_cases c1 : isB c = true
      · rw [if_pos c1, if_pos c1, two _ _ (Nat.le_refl _)]
      · rw [if_neg c1, if_neg c1]
        by_cases c2 : isL c = true
        · have r1 : 1 ≤ ((c :: cs).takeWhile isL).length := by
            rw [List.takeWhile_cons, if_pos c2, List.length_cons]; omega
          rw [if_pos c2, if_pos c2, two _ _ (by rw [List.length_drop, List.length_cons]; omega)]
        · rw [if_neg c2, if_neg c2]
          by_cases c3 : isD c = true
          · have r1 : 1 ≤ ((c :: cs).takeWhile isD).length := by
              rw [List.takeWhile_cons, if_pos c3, List.length_cons]; omega
            rw [if_pos c3, if_pos c3, two _ _ (by rw [List.length_drop, List.length_cons]; omega)]
          · rw [if_neg c3, if_neg c3, two _ _ (Nat.le_refl _)]
/-- the tokens from a place on -/
def tkF (T : List Nat) (e : Nat) : List Tok := tkz (T.length - e) e (T.drop e)
theorem tkF_of {T : List Nat} {n p : Nat} {l : List Nat} (hl : l = T.drop p) (hn : l.length ≤ n) : tkz n p l = tkF T p := by
  unfold tkF
  rw [tkz_fu n n (Nat.le_refl _) p l hn, hl, List.length_drop]
def v32 (w : List Nat) : Nat := w.foldl (fun v c => 32 * v + (c - 96)) 0
def kd (x : Tok) : Nat := if x.1 = 3 then x.2.2.headD 0 else if x.1 = 4 then 3 else x.1
/-- the tape stands before ts -/
def CK (T : List Nat) (ts : List Tok) (D : OD) : Prop := RepTa T D ∧ TV ts ∧ oi D 3 = Int32.ofNat (hd ts).2.1 ∧ oi D 2 = Int32.ofNat (kd (hd ts)) ∧ ((hd ts).1 = 1 → ol D 5 = Int64.ofNat (v32 (hd ts).2.2)) ∧ ((hd ts).1 = 2 → oi D 4 = Int32.ofNat (v10 (hd ts).2.2)) ∧ ∃ e, oi D 6 = Int32.ofNat e ∧ e ≤ T.length ∧ ((hd ts).1 ≠ 0 → ts.tail = tkF T e) ∧ ((hd ts).1 = 1 → e = (hd ts).2.1 + (hd ts).2.2.length ∧ ∀ j, j < (hd ts).2.2.length → T[(hd ts).2.1 + j]? = (hd ts).2.2[j]?)
theorem so_ite {c : Prop} [Decidable c] (a b : Int32) (h : PH) : (some ((if c then a else b), h) : Option (Int32 × PH)) = if c then some (a, h) else some (b, h) := by
  split <;> rfl
theorem c_ownKind : ∀ c, c < 127 → ∀ (N : Nat) (h : PH), f_X10_ownKind N (Int32.ofNat c) h = some (Int32.ofNat (if isS c then c else 3), h) := by
  intro c hc N h
  have key : ∀ c, c < 127 → (if (Int32.ofNat c : Int32) = 40 then Int32.ofNat c else if Int32.ofNat c = 41 then Int32.ofNat c else if Int32.ofNat c = 42 then Int32.ofNat c else if Int32.ofNat c = 43 then Int32.ofNat c else if Int32.ofNat c = 44 then 3 else if Int32.ofNat c = 45 then Int32.ofNat c else if Int32.ofNat c = 46 then 3 else if Int32.ofNat c = 47 then 3 else if Int32.ofNat c = 48 then 3 else if Int32.ofNat c = 49 then 3 else if Int32.ofNat c = 50 then 3 else if Int32.ofNat c = 51 then 3 else if Int32.ofNat c = 52 then 3 else if Int32.ofNat c = 53 then 3 else if Int32.ofNat c = 54 then 3 else if Int32.ofNat c = 55 then 3 else if Int32.ofNat c = 56 then 3 else if Int32.ofNat c = 57 then 3 else if Int32.ofNat c = 58 then 3 else if Int32.ofNat c = 59 then Int32.ofNat c else if Int32.ofNat c = 60 then Int32.ofNat c else if Int32.ofNat c = 61 then Int32.ofNat c else 3) = Int32.ofNat (if isS c then c else 3) := by decide +kernel
  rw [← key c hc]
  unfold f_X10_ownKind f_X10_ownKind_104 f_X10_ownKind_106
  simp only [so_ite]
section CTok
variable {N : Nat} {h : PH}
theorem c_isLetter {c : Nat} (hc : c < 1000) : f_X10_isLetter N (Int32.ofNat c) h = some (eB (isL c), h) := by
  have := m_isLetter (N := N) (h := h) hc
  exact this
theorem c_isDigit {c : Nat} (hc : c < 1000) : f_X10_isDigit N (Int32.ofNat c) h = some (eB (isD c), h) := by
  have := m_isDigit (N := N) (h := h) hc
  exact this
theorem c_isBlank {c : Nat} (hc : c < 1000) : f_X10_isBlank N (Int32.ofNat c) h = some (eB (isB c), h) := by
  unfold f_X10_isBlank f_X10_isBlank_12 f_X10_isBlank_17 isB
  rw [gzb0, gzb1, gg_t, gg_t]
  by_cases c1 : c = 10
  · have e1 : Int32.ofNat c = 10 := by rw [c1]; rfl
    rw [if_pos e1, decide_eq_true c1]
    rfl
  · have e1 : ¬ Int32.ofNat c = 10 := of_eq_false (neqF (b := 10) c1 (by omega) (by omega))
    rw [if_neg e1, decide_eq_false c1, Bool.false_or]
    by_cases c2 : c = 32
    · have e2 : Int32.ofNat c = 32 := by rw [c2]; rfl
      rw [if_pos e2, decide_eq_true c2]
      rfl
    · have e2 : ¬ Int32.ofNat c = 32 := of_eq_false (neqF (b := 32) c2 (by omega) (by omega))
      rw [if_neg e2, decide_eq_false c2]
      rfl
theorem TOk.lt {T : List Nat} (hT : TOk T) {k c : Nat} (h : T[k]? = some c) : c < 127 := by
  rcases hT.2 c (List.mem_of_getElem? h) with z | z <;> omega
theorem tw_len (p : Nat → Bool) (l : List Nat) : (l.takeWhile p).length ≤ l.length := (tw_at l).2.2
/-- behind the digits -/
theorem c_adv222 {p : Nat} (hF : p + 2 ≤ h.length) {T : List Nat} {D : OD} (hT : TOk T) (hR : RepTa T D) {e : Nat} (he : e ≤ T.length) (hb : ∀ c, T[e]? = some c → isB c = false ∧ isL c = false) (h3 : oi D 3 = Int32.ofNat e) (h6 : oi D 6 = Int32.ofNat (e + ((T.drop e).takeWhile isD).length)) (h4 : oi D 4 = Int32.ofNat (v10 ((T.drop e).takeWhile isD))) : ∃ D', f_X10_advance_222 N p (pt sX10 p D h) = some (pt sX10 p D' h) ∧ CK T (tkF T e) D' := by
  have tl := hT.1
  have tv : TV (tkF T e) := (tkz_ok (T.length - e) e (T.drop e) (by rw [List.length_drop]; omega) (by rw [List.length_drop]; omega)).1
  have rl := tw_len isD (T.drop e)
  rw [List.length_drop] at rl
  unfold f_X10_advance_222 f_X10_advance_252 f_X10_advance_284
  rcases Nat.lt_or_ge e T.length with q | q
  · obtain ⟨c, hc⟩ : ∃ c, T[e]? = some c := ⟨_, List.getElem?_eq_getElem q⟩
    obtain ⟨b1, b2⟩ := hb c hc
    have c127 := hT.lt hc
    have ed : T.drop e = c :: T.drop (e + 1) := by
      rw [List.drop_eq_getElem_cons q]
      rw [List.getElem?_eq_getElem q] at hc
      cases hc
      rfl
    have etk : tkF T e = if isD c then (if ((T.drop e).takeWhile isD).length ≤ 4 then 2 else 4, e, (T.drop e).takeWhile isD) :: tkF T (e + ((T.drop e).takeWhile isD).length) else (if isS c then 3 else 4, e, [c]) :: tkF T (e + 1) := by
      have u : tkF T e = tkz (T.length - (e + 1) + 1) e (c :: T.drop (e + 1)) := by
        unfold tkF
        rw [ed, show T.length - e = T.length - (e + 1) + 1 by omega]
      rw [u, tkz_c, b1, b2, ed]
      have f1 : tkz (T.length - (e + 1)) (e + 1) (T.drop (e + 1)) = tkF T (e + 1) := rfl
      rw [f1]
      by_cases c3 : isD c = true
      · have r1 : 1 ≤ ((c :: T.drop (e + 1)).takeWhile isD).length := by
          rw [List.takeWhile_cons, if_pos c3, List.length_cons]; omega
        have f2 : tkz (T.length - (e + 1)) (e + ((c :: T.drop (e + 1)).takeWhile isD).length) ((c :: T.drop (e + 1)).drop ((c :: T.drop (e + 1)).takeWhile isD).length) = tkF T (e + ((c :: T.drop (e + 1)).takeWhile isD).length) := tkF_of (by rw [← ed, List.drop_drop]) (by rw [← ed] at r1 ⊢; rw [List.length_drop, List.length_drop]; omega)
        rw [f2]
        rfl
      · have ff : ¬ (false = true) := by decide
        rw [if_neg ff, if_neg ff, if_neg c3, if_neg c3]
    by_cases c3 : isD c = true
    · have r1 : 1 ≤ ((T.drop e).takeWhile isD).length := by
        rw [ed, List.takeWhile_cons, if_pos c3, List.length_cons]; omega
      rw [if_pos c3] at etk
      have n1 : (Int32.ofNat (e + ((T.drop e).takeWhile isD).length) ≤ Int32.ofNat e) = False := nleF (by omega) (by omega) (by omega)
      have fin : ∀ k, k = kd (hd (tkF T e)) → CK T (tkF T e) (si D 2 (Int32.ofNat k)) := by
        intro k hk
        rw [etk] at hk ⊢
        rw [etk] at tv
        refine ⟨hR, tv, h3, by rw [oi_si, if_pos rfl, hk], ?_, ?_, e + ((T.drop e).takeWhile isD).length, h6, by omega, fun _ => rfl, ?_⟩
        · intro z
          have z : (if ((T.drop e).takeWhile isD).length ≤ 4 then 2 else 4) = 1 := z
          split at z <;> omega
        · intro _
          exact h4
        · intro z
          have z : (if ((T.drop e).takeWhile isD).length ≤ 4 then 2 else 4) = 1 := z
          split at z <;> omega
      by_cases c4 : ((T.drop e).takeWhile isD).length ≤ 4
      · have n2 : ((4 : Int32) < Int32.ofNat (((T.drop e).takeWhile isD).length)) = False := nltF (a := 4) (by omega) (by omega) (by omega)
        refine ⟨si D 2 (Int32.ofNat 2), ?_, fin 2 (by rw [etk]; unfold kd hd; simp [c4])⟩
        simp (disch := first | (with_reducible assumption) | (simp only [oi_si, oi_sl, oi_sa, oi_sm, oi_sv, oi_sq, ol_si, ol_sl, ol_sa, ol_sm, ol_sv, ol_sq, oa_si, oa_sl, oa_sa, oa_sm, oa_sv, oa_sq, om_si, om_sl, om_sa, om_sm, om_sv, om_sq, ov_si, ov_sl, ov_sa, ov_sm, ov_sv, ov_sq, oq_si, oq_sl, oq_sa, oq_sm, oq_sv, oq_sq, Nat.reduceEqDiff, ↓reduceIte]; done) | omega | (exact ixn (by omega) (by omega)) | (exact ixl (by decide) (by decide)) | (simp only [pt_len, pl, z0, z1, z2, z3, z4, z5, z6, z7, z8, z9, z10, z11, z12]; omega)) only [↓gb_m, ↓gc_m, ↓gl_s, ↓gg_m, gb_s, gc_s, gg_t, gqm_0, gqm_1, pt_pt, sa_sa, sm_sm, si_si, qk10, qg10_0, qg10_1, qs10_1, qg10_2, qs10_2, qg10_3, qs10_3, qg10_4, qs10_4, qg10_5, qs10_5, qg10_6, qs10_6, qa10_0, qe10_0, ql10_0, oi_si, oi_sl, oi_sa, oi_sm, oi_sv, oi_sq, ol_si, ol_sl, ol_sa, ol_sm, ol_sv, ol_sq, oa_si, oa_sl, oa_sa, oa_sm, oa_sv, oa_sq, om_si, om_sl, om_sa, om_sm, om_sv, om_sq, ov_si, ov_sl, ov_sa, ov_sm, ov_sv, ov_sq, oq_si, oq_sl, oq_sa, oq_sm, oq_sv, oq_sq, Nat.reduceEqDiff, ↓reduceIte, n_add, n_addl, n_ladd, n_add1, n_mul, n_lmul, n_mull, n_sub, n_subl, n_subm, n_lt, n_le, n_eq, n_ltl, n_llt, n_lel, n_lle, n_eql, n_leq, n_m1, n_m1l, n_lt0, n_ge0, i_okc, i_okl, if_true, if_false, not_true, not_false, Nat.not_lt_zero, Nat.zero_le, h6, h3, n1, Nat.add_sub_cancel_left, n2]
        rfl
      · have n2 : ((4 : Int32) < Int32.ofNat (((T.drop e).takeWhile isD).length)) = True := nltT (a := 4) (by omega) (by omega) (by omega)
        refine ⟨si D 2 (Int32.ofNat 3), ?_, fin 3 (by rw [etk]; unfold kd hd; simp [c4])⟩
        simp (disch := first | (with_reducible assumption) | (simp only [oi_si, oi_sl, oi_sa, oi_sm, oi_sv, oi_sq, ol_si, ol_sl, ol_sa, ol_sm, ol_sv, ol_sq, oa_si, oa_sl, oa_sa, oa_sm, oa_sv, oa_sq, om_si, om_sl, om_sa, om_sm, om_sv, om_sq, ov_si, ov_sl, ov_sa, ov_sm, ov_sv, ov_sq, oq_si, oq_sl, oq_sa, oq_sm, oq_sv, oq_sq, Nat.reduceEqDiff, ↓reduceIte]; done) | omega | (exact ixn (by omega) (by omega)) | (exact ixl (by decide) (by decide)) | (simp only [pt_len, pl, z0, z1, z2, z3, z4, z5, z6, z7, z8, z9, z10, z11, z12]; omega)) only [↓gb_m, ↓gc_m, ↓gl_s, ↓gg_m, gb_s, gc_s, gg_t, gqm_0, gqm_1, pt_pt, sa_sa, sm_sm, si_si, qk10, qg10_0, qg10_1, qs10_1, qg10_2, qs10_2, qg10_3, qs10_3, qg10_4, qs10_4, qg10_5, qs10_5, qg10_6, qs10_6, qa10_0, qe10_0, ql10_0, oi_si, oi_sl, oi_sa, oi_sm, oi_sv, oi_sq, ol_si, ol_sl, ol_sa, ol_sm, ol_sv, ol_sq, oa_si, oa_sl, oa_sa, oa_sm, oa_sv, oa_sq, om_si, om_sl, om_sa, om_sm, om_sv, om_sq, ov_si, ov_sl, ov_sa, ov_sm, ov_sv, ov_sq, oq_si, oq_sl, oq_sa, oq_sm, oq_sv, oq_sq, Nat.reduceEqDiff, ↓reduceIte, n_add, n_addl, n_ladd, n_add1, n_mul, n_lmul, n_mull, n_sub, n_subl, n_subm, n_lt, n_le, n_eq, n_ltl, n_llt, n_lel, n_lle, n_eql, n_leq, n_m1, n_m1l, n_lt0, n_ge0, i_okc, i_okl, if_true, if_false, not_true, not_false, Nat.not_lt_zero, Nat.zero_le, h6, h3, n1, Nat.add_sub_cancel_left, n2]
        rfl
    · have r0 : ((T.drop e).takeWhile isD).length = 0 := by
        rw [ed, List.takeWhile_cons, if_neg c3]; rfl
      rw [if_neg c3] at etk
      rw [r0, Nat.add_zero] at h6
      have n1 : (Int32.ofNat e ≤ Int32.ofNat e) = True := nleT (Nat.le_refl _) (by omega) (by omega)
      have n2 : (Int32.ofNat T.length ≤ Int32.ofNat e) = False := nleF (by omega) (by omega) (by omega)
      have ra := hR.2 e c hc
      have ok := c_ownKind c c127 N
      have mn : gmin (Int32.ofNat (e + 1)) (Int32.ofNat T.length) = Int32.ofNat (e + 1) := by
        rw [gmin_n (by omega) (by omega), if_neg (by omega)]
      refine ⟨si (si D 2 (Int32.ofNat (if isS c then c else 3))) 6 (Int32.ofNat (e + 1)), ?_, ?_⟩
      · simp (disch := first | (with_reducible assumption) | (simp only [oi_si, oi_sl, oi_sa, oi_sm, oi_sv, oi_sq, ol_si, ol_sl, ol_sa, ol_sm, ol_sv, ol_sq, oa_si, oa_sl, oa_sa, oa_sm, oa_sv, oa_sq, om_si, om_sl, om_sa, om_sm, om_sv, om_sq, ov_si, ov_sl, ov_sa, ov_sm, ov_sv, ov_sq, oq_si, oq_sl, oq_sa, oq_sm, oq_sv, oq_sq, Nat.reduceEqDiff, ↓reduceIte]; done) | omega | (exact ixn (by omega) (by omega)) | (exact ixl (by decide) (by decide)) | (simp only [pt_len, pl, z0, z1, z2, z3, z4, z5, z6, z7, z8, z9, z10, z11, z12]; omega)) only [↓gb_m, ↓gc_m, ↓gl_s, ↓gg_m, gb_s, gc_s, gg_t, gqm_0, gqm_1, pt_pt, sa_sa, sm_sm, si_si, qk10, qg10_0, qg10_1, qs10_1, qg10_2, qs10_2, qg10_3, qs10_3, qg10_4, qs10_4, qg10_5, qs10_5, qg10_6, qs10_6, qa10_0, qe10_0, ql10_0, oi_si, oi_sl, oi_sa, oi_sm, oi_sv, oi_sq, ol_si, ol_sl, ol_sa, ol_sm, ol_sv, ol_sq, oa_si, oa_sl, oa_sa, oa_sm, oa_sv, oa_sq, om_si, om_sl, om_sa, om_sm, om_sv, om_sq, ov_si, ov_sl, ov_sa, ov_sm, ov_sv, ov_sq, oq_si, oq_sl, oq_sa, oq_sm, oq_sv, oq_sq, Nat.reduceEqDiff, ↓reduceIte, n_add, n_addl, n_ladd, n_add1, n_mul, n_lmul, n_mull, n_sub, n_subl, n_subm, n_lt, n_le, n_eq, n_ltl, n_llt, n_lel, n_lle, n_eql, n_leq, n_m1, n_m1l, n_lt0, n_ge0, i_okc, i_okl, if_true, if_false, not_true, not_false, Nat.not_lt_zero, Nat.zero_le, h6, h3, n1, hR.1, n2, ra, ok, mn]
      · rw [etk] at tv ⊢
        refine ⟨hR, tv, h3, ?_, ?_, ?_, e + 1, by rw [oi_si, if_pos rfl], by omega, fun _ => rfl, ?_⟩
        · rw [oi_si, if_neg (by decide), oi_si, if_pos rfl]
          congr 1
          unfold kd hd
          by_cases s : isS c = true
          · simp [s]
          · simp [s]
        · intro z
          have z : (if isS c = true then 3 else 4) = 1 := z
          split at z <;> omega
        · intro z
          have z : (if isS c = true then 3 else 4) = 2 := z
          split at z <;> omega
        · intro z
          have z : (if isS c = true then 3 else 4) = 1 := z
          split at z <;> omega
  · have ee : e = T.length := by omega
    have ed : T.drop e = [] := List.drop_of_length_le q
    have etk : tkF T e = [(0, e, [])] := by
      unfold tkF
      rw [ed, ee, Nat.sub_self]
      rfl
    have r0 : ((T.drop e).takeWhile isD).length = 0 := by rw [ed]; rfl
    rw [r0, Nat.add_zero] at h6
    have n1 : (Int32.ofNat e ≤ Int32.ofNat e) = True := nleT (Nat.le_refl _) (by omega) (by omega)
    have n2 : (Int32.ofNat T.length ≤ Int32.ofNat e) = True := nleT (by omega) (by omega) (by omega)
    have mn : gmin (Int32.ofNat (e + 1)) (Int32.ofNat T.length) = Int32.ofNat e := by
      rw [gmin_n (by omega) (by omega), if_pos (by omega), ee]
    refine ⟨si (si D 2 0) 6 (Int32.ofNat e), ?_, ?_⟩
    · simp (disch := first | (with_reducible assumption) | (simp only [oi_si, oi_sl, oi_sa, oi_sm, oi_sv, oi_sq, ol_si, ol_sl, ol_sa, ol_sm, ol_sv, ol_sq, oa_si, oa_sl, oa_sa, oa_sm, oa_sv, oa_sq, om_si, om_sl, om_sa, om_sm, om_sv, om_sq, ov_si, ov_sl, ov_sa, ov_sm, ov_sv, ov_sq, oq_si, oq_sl, oq_sa, oq_sm, oq_sv, oq_sq, Nat.reduceEqDiff, ↓reduceIte]; done) | omega | (exact ixn (by omega) (by omega)) | (exact ixl (by decide) (by decide)) | (simp only [pt_len, pl, z0, z1, z2, z3, z4, z5, z6, z7, z8, z9, z10, z11, z12]; omega)) only [↓gb_m, ↓gc_m, ↓gl_s, ↓gg_m, gb_s, gc_s, gg_t, gqm_0, gqm_1, pt_pt, sa_sa, sm_sm, si_si, qk10, qg10_0, qg10_1, qs10_1, qg10_2, qs10_2, qg10_3, qs10_3, qg10_4, qs10_4, qg10_5, qs10_5, qg10_6, qs10_6, qa10_0, qe10_0, ql10_0, oi_si, oi_sl, oi_sa, oi_sm, oi_sv, oi_sq, ol_si, ol_sl, ol_sa, ol_sm, ol_sv, ol_sq, oa_si, oa_sl, oa_sa, oa_sm, oa_sv, oa_sq, om_si, om_sl, om_sa, om_sm, om_sv, om_sq, ov_si, ov_sl, ov_sa, ov_sm, ov_sv, ov_sq, oq_si, oq_sl, oq_sa, oq_sm, oq_sv, oq_sq, Nat.reduceEqDiff, ↓reduceIte, n_add, n_addl, n_ladd, n_add1, n_mul, n_lmul, n_mull, n_sub, n_subl, n_subm, n_lt, n_le, n_eq, n_ltl, n_llt, n_lel, n_lle, n_eql, n_leq, n_m1, n_m1l, n_lt0, n_ge0, i_okc, i_okl, if_true, if_false, not_true, not_false, Nat.not_lt_zero, Nat.zero_le, h6, h3, n1, hR.1, n2, mn]
    · rw [etk] at tv ⊢
      refine ⟨hR, tv, h3, by rw [oi_si, if_neg (by decide), oi_si, if_pos rfl]; rfl, fun z => (by cases z), fun z => (by cases z), e, by rw [oi_si, if_pos rfl], he, fun z => absurd rfl z, fun z => (by cases z)⟩
end CTok

