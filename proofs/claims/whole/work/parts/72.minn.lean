/-! The model reads an inn -/
theorem pNum_ok {ts : List Tok} (hv : TV ts) {m : Nat} {x : Nat × List Tok} (h : pNum m ts = .inr x) : Suf 1 ts x.2 ∧ x.1 ≤ m := by
  unfold pNum at h
  split at h
  · rename_i k
    split at h
    · rename_i c
      cases h
      exact ⟨Suf.tl hv (by rw [k]; decide), c⟩
    · cases h
  · cases h
theorem pExt_ok : ∀ (n : Nat) (b i : Bool) (ts : List Tok) (x : (Bool × Bool) × List Tok), TV ts → pExt n b i ts = .inr x → Suf 0 ts x.2 := by
  intro n
  induction n with
  | zero =>
    intro b i ts x hv h
    cases h
    exact Suf.rf hv
  | succ n ih =>
    intro b i ts x hv h
    unfold pExt at h
    split at h
    · rename_i q
      split at h
      · cases h
      · have k1 : (hd ts).1 ≠ 0 := by rw [(isWd_k q).1]; decide
        have s1 := Suf.tl hv k1
        exact (s1.tr (ih _ _ _ _ s1.tv h)).le (by omega)
    · split at h
      · rename_i q
        split at h
        · cases h
        · have k1 : (hd ts).1 ≠ 0 := by rw [(isWd_k q).1]; decide
          have s1 := Suf.tl hv k1
          exact (s1.tr (ih _ _ _ _ s1.tv h)).le (by omega)
      · cases h
        exact Suf.rf hv
theorem cdAll_app' (rs : List (List Cd)) (c : List Cd) : (cdAll (rs ++ [c])).length = (cdAll rs).length + c.length + 1 := by
  unfold cdAll
  rw [List.foldl_append]
  show (_ ++ c ++ [(0, 0)]).length = _
  rw [List.length_append, List.length_append]
  rfl
theorem pLine_ok {s : PS} {ts : List Tok} (hs : PSk s) (hv : TV ts) (hl : ts.length ≤ 1001) {x : PS × List Tok} (h : pLine s ts = .inr x) : Suf 1 ts x.2 ∧ PSk x.1 ∧ (cdAll x.1.2.2).length + x.2.length ≤ (cdAll s.2.2).length + ts.length := by
  obtain ⟨s0, s1, s2, s3, s4, s5⟩ := hs
  unfold pLine at h
  split at h
  · rename_i q
    have k1 : (hd ts).1 ≠ 0 := by rw [(isWd_k q).1]; decide
    have t1 := Suf.tl hv k1
    unfold pRoom at h
    split at h
    · cases h
    · rename_i q2
      cases hq : pNum 9 ts.tail with
      | inl f => rw [hq] at h; cases h
      | inr y =>
        rw [hq] at h
        cases hq2 : pNum 1 y.2 with
        | inl f => simp only [hq2] at h; cases h
        | inr z =>
          simp only [hq2] at h
          cases h
          obtain ⟨a1, a2⟩ := pNum_ok t1.tv hq
          obtain ⟨b1, b2⟩ := pNum_ok a1.tv hq2
          have su := (t1.tr a1).tr b1
          have := su.len
          refine ⟨su.le (by omega), ⟨?_, s1, s2, ?_, s4, s5⟩, by show (cdAll s.2.2).length + z.2.length ≤ _; omega⟩
          · show (s.1 ++ [(y.1, z.1)]).length ≤ 10
            rw [List.length_append]
            show s.1.length + 1 ≤ 10
            omega
          · intro w hw
            have hw : w ∈ s.1 ++ [(y.1, z.1)] := hw
            rcases List.mem_append.mp hw with u | u
            · exact s3 w u
            · rw [List.mem_singleton.mp u]
              exact ⟨a2, b2⟩
  · split at h
    · rename_i q
      have k1 : (hd ts).1 ≠ 0 := by rw [(isWd_k q).1]; decide
      have t1 := Suf.tl hv k1
      unfold pGuest at h
      split at h
      · cases h
      · rename_i q2
        split at h
        · rename_i c1
          have k2 : (hd ts.tail).1 ≠ 0 := by rw [c1.1]; decide
          have t2 := Suf.tl t1.tv k2
          split at h
          · cases h
          · split at h
            · rename_i c3
              have k3 : (hd ts.tail.tail).1 ≠ 0 := by rw [(isWd_k c3).1]; decide
              have t3 := Suf.tl t2.tv k3
              cases hq : pNum 99 ts.tail.tail.tail with
              | inl f => rw [hq] at h; cases h
              | inr y =>
                rw [hq] at h
                cases hq2 : pExt 3 false false y.2 with
                | inl f => simp only [hq2] at h; cases h
                | inr z =>
                  simp only [hq2] at h
                  cases h
                  obtain ⟨a1, a2⟩ := pNum_ok t3.tv hq
                  have b1 := pExt_ok _ _ _ _ _ a1.tv hq2
                  have su := (((t1.tr t2).tr t3).tr a1).tr b1
                  have := su.len
                  refine ⟨su.le (by omega), ⟨s0, ?_, s2, s3, ?_, s5⟩, by show (cdAll s.2.2).length + z.2.length ≤ _; omega⟩
                  · show (s.2.1 ++ [((hd ts.tail).2.2, y.1, z.1.1, z.1.2)]).length ≤ 10
                    rw [List.length_append]
                    show s.2.1.length + 1 ≤ 10
                    omega
                  · intro w hw
                    have hw : w ∈ s.2.1 ++ [((hd ts.tail).2.2, y.1, z.1.1, z.1.2)] := hw
                    rcases List.mem_append.mp hw with u | u
                    · exact s4 w u
                    · rw [List.mem_singleton.mp u]
                      have ok := t1.tv.hd.1.2.1 c1.1
                      exact ⟨a2, ok.1, ok.2.2⟩
            · cases h
        · cases h
    · split at h
      · rename_i q
        have k1 : (hd ts).1 ≠ 0 := by rw [(isWd_k q).1]; decide
        have t1 := Suf.tl hv k1
        unfold pRule at h
        split at h
        · cases h
        · rename_i q2
          cases hq : pAll (pPart 5) ts.tail with
          | inl f => rw [hq] at h; cases h
          | inr y =>
            rw [hq] at h
            cases h
            obtain ⟨gd1, gd2, gd3⟩ := Good.rule ts.tail t1.tv y.1 y.2 hq
            have su := t1.tr gd1
            have l1 := su.len
            have l2 := t1.len
            have l3 := gd1.len
            refine ⟨su.le (by omega), ⟨s0, s1, ?_, s3, s4, ?_⟩, ?_⟩
            · show (s.2.2 ++ [y.1]).length ≤ 4
              rw [List.length_append]
              show s.2.2.length + 1 ≤ 4
              omega
            · intro w hw
              have hw : w ∈ s.2.2 ++ [y.1] := hw
              rcases List.mem_append.mp hw with u | u
              · exact s5 w u
              · rw [List.mem_singleton.mp u]
                exact ⟨gd3 0 (by omega), by omega⟩
            · show (cdAll (s.2.2 ++ [y.1])).length + y.2.length ≤ _
              rw [cdAll_app']
              omega
      · cases h
/-- the state of a new inn -/
def s0A (I : IA) : SA := (if 0 < iK I then some 0 else none, [], [], fun _ => 0, [], [])
def innP (A : AA) : Sum Nat PS := pInn 1000 ([], [], []) (toks (aT A))
def innS (A : AA) : AA := match innP A with
  | .inl _ => (aI A, [], aS A, aM A)
  | .inr s => (psI s, [], s0A (psI s), fun _ => none)
def ansInn (A : AA) : Int32 := match innP A with
  | .inl f => Int32.ofNat f
  | .inr _ => 0
theorem pInn_ok : ∀ (n : Nat) (s : PS) (ts : List Tok), PSk s → TV ts → ts.length ≤ 1001 → (cdAll s.2.2).length + ts.length ≤ 1001 → ∀ s', pInn n s ts = .inr s' → PSk s' ∧ (cdAll s'.2.2).length ≤ 1001 := by
  intro n
  induction n with
  | zero => intro s ts hs hv hl hb s' h; cases h; exact ⟨hs, by omega⟩
  | succ n ih =>
    intro s ts hs hv hl hb s' h
    unfold pInn at h
    split at h
    · cases h; exact ⟨hs, by omega⟩
    · cases hq : pLine s ts with
      | inl f => rw [hq] at h; cases h
      | inr x =>
        simp only [hq] at h
        split at h
        · rename_i c
          obtain ⟨a1, a2, a3⟩ := pLine_ok hs hv hl hq
          have k1 : (hd x.2).1 ≠ 0 := by rw [(isSg_k c).1]; decide
          have t1 := Suf.tl a1.tv k1
          have l1 := a1.len
          have l2 := t1.len
          exact ih _ _ a2 t1.tv (by omega) (by omega) s' h
        · cases h
theorem psI_ok {s : PS} (hs : PSk s) : IOk (psI s) := by
  obtain ⟨s0, s1, s2, s3, s4, s5⟩ := hs
  refine ⟨s0, s1, s2, ?_, ?_, ?_⟩
  · intro r hr
    have hr : r < s.1.length := hr
    have e : s.1.getD r (0, 0) = s.1[r] := by rw [List.getD_eq_getElem?_getD, List.getElem?_eq_getElem hr]; rfl
    have := s3 _ (List.getElem_mem hr)
    show (s.1.getD r (0, 0)).1 ≤ 9 ∧ (s.1.getD r (0, 0)).2 ≤ 1
    rw [e]
    exact this
  · intro g hg
    have hg : g < s.2.1.length := hg
    have e : s.2.1.getD g ([], 0, false, false) = s.2.1[g] := by rw [List.getD_eq_getElem?_getD, List.getElem?_eq_getElem hg]; rfl
    have := s4 _ (List.getElem_mem hg)
    refine ⟨?_, ?_, ?_⟩
    · show (s.2.1.getD g ([], 0, false, false)).2.1 ≤ 99
      rw [e]
      exact this.1
    · show (if (s.2.1.getD g ([], 0, false, false)).2.2.1 = true then 1 else 0) ≤ 1
      split <;> omega
    · show (if (s.2.1.getD g ([], 0, false, false)).2.2.2 = true then 1 else 0) ≤ 1
      split <;> omega
  · intro k hk
    have hk : k < s.2.2.length := hk
    have e : s.2.2.getD k [] = s.2.2[k] := by rw [List.getD_eq_getElem?_getD, List.getElem?_eq_getElem hk]; rfl
    have := s5 _ (List.getElem_mem hk)
    show depL 0 (s.2.2.getD k []) = some 1 ∧ (s.2.2.getD k []).length ≤ 1000
    rw [e]
    exact this
theorem s0A_ok {I : IA} : SOk I (s0A I) := by
  refine ⟨?_, Nat.zero_le _, trivial, Nat.zero_le _, ?_, ?_, Nat.zero_le _, ?_, Nat.zero_le _, ?_, ?_⟩
  · intro k hk
    have hk : (if 0 < iK I then some 0 else none) = some k := hk
    split at hk
    · cases hk; assumption
    · cases hk
  · intro x hx; cases hx
  · intro g
    exact ⟨Nat.two_pow_pos _, fun _ => rfl⟩
  · intro x hx; cases hx
  · exact List.nodup_nil
  · intro g hg; cases hg
theorem inn_ok {A : AA} (hA' : AOk A) : AOk (innS A) := by
  obtain ⟨a1, a2, a3, a4, a5⟩ := hA'
  obtain ⟨t1, t2⟩ := toks_ok (T := aT A) ⟨a3, a4⟩
  unfold innS
  cases hq : innP A with
  | inl f => exact ⟨a1, a2, Nat.zero_le _, fun c hc => (by cases hc), a5⟩
  | inr s =>
    obtain ⟨b1, b2⟩ := pInn_ok 1000 ([], [], []) (toks (aT A)) ⟨by decide, by decide, by decide, fun x hx => (by cases hx), fun x hx => (by cases hx), fun x hx => (by cases hx)⟩ t1 t2 (by show 0 + _ ≤ _; omega) s hq
    exact ⟨psI_ok b1, s0A_ok, Nat.zero_le _, fun c hc => (by cases hc), fun m S h => (by cases h)⟩
/-- where a rule's codes lie among all codes -/
theorem cdAll_at : ∀ (rs : List (List Cd)) (k : Nat) (cs : List Cd), rs[k]? = some cs → (cdAll (rs.take k)).length + cs.length < (cdAll rs).length ∧ (∀ (j : Nat) (c : Cd), cs[j]? = some c → (cdAll rs)[(cdAll (rs.take k)).length + j]? = some c) ∧ (cdAll rs)[(cdAll (rs.take k)).length + cs.length]? = some (0, 0) := by
  intro rs
  generalize hn : rs.length = n
  induction n generalizing rs with
  | zero =>
    intro k cs h
    have := ln_of h
    omega
  | succ n ih =>
    intro k cs h
    rcases List.eq_nil_or_concat rs with z | ⟨rs', c', z⟩
    · rw [z] at hn; cases hn
    · rw [List.concat_eq_append] at z
      subst z
      have hl : rs'.length = n := by
        rw [List.length_append] at hn
        simp at hn
        exact hn
      have hk := ln_of h
      have ea : cdAll (rs' ++ [c']) = cdAll rs' ++ c' ++ [(0, 0)] := by
        unfold cdAll
        rw [List.foldl_append]
        rfl
      rcases Nat.lt_or_ge k rs'.length with u | u
      · rw [List.getElem?_append_left u] at h
        obtain ⟨a, b, c⟩ := ih rs' hl k cs h
        rw [List.take_append_of_le_length (by omega), ea]
        refine ⟨?_, ?_, ?_⟩
        · rw [List.length_append, List.length_append]
          omega
        · intro j x hx
          have := ln_of hx
          rw [List.append_assoc, List.getElem?_append_left (by omega)]
          exact b j x hx
        · rw [List.append_assoc, List.getElem?_append_left (by omega)]
          exact c
      · rw [List.length_append] at hk
        have hk : k < rs'.length + 1 := hk
        have : k = rs'.length := by omega
        subst this
        rw [List.getElem?_append_right (Nat.le_refl _), Nat.sub_self] at h
        cases h
        rw [List.take_append_of_le_length (Nat.le_refl _), List.take_length, ea]
        refine ⟨?_, ?_, ?_⟩
        · rw [List.length_append, List.length_append]
          show _ < _ + 1
          omega
        · intro j x hx
          have := ln_of hx
          rw [List.append_assoc, List.getElem?_append_right (by omega), Nat.add_sub_cancel_left, List.getElem?_append_left this]
          exact hx
        · rw [List.getElem?_append_right (by rw [List.length_append]; exact Nat.le_refl _), List.length_append, Nat.sub_self]
          rfl
section MInn
variable {N : Nat} {h : PH}
theorem m_inn38F (hF : 80 + 25 ≤ h.length) {f : Nat} {M : OD} (q : PF f M) {m : Nat} : gi (fun zk zs => f_X12_inn_38 N zk zs.1 zs.2) (m + 1) (80, pt sX12 80 M h) = f_X12_inn_70 N 80 (pt sX12 80 M h) := by
  have n1 := q.n0.1
  rw [gi_1]
  generalize hz : gi _ m = zk
  dsimp only
  unfold f_X12_inn_38
  simp (disch := first | (with_reducible assumption) | (simp only [oi_si, oi_sl, oi_sa, oi_sm, oi_sv, oi_sq, ol_si, ol_sl, ol_sa, ol_sm, ol_sv, ol_sq, oa_si, oa_sl, oa_sa, oa_sm, oa_sv, oa_sq, om_si, om_sl, om_sa, om_sm, om_sv, om_sq, ov_si, ov_sl, ov_sa, ov_sm, ov_sv, ov_sq, oq_si, oq_sl, oq_sa, oq_sm, oq_sv, oq_sq, Nat.reduceEqDiff, ↓reduceIte]; done) | omega | (exact ixn (by omega) (by omega)) | (exact ixl (by decide) (by decide)) | (simp only [pt_len, pl, z0, z1, z2, z3, z4, z5, z6, z7, z8, z9, z10, z11, z12]; omega)) only [↓gb_m, ↓gc_m, ↓gl_s, ↓gg_m, gb_s, gc_s, gg_t, gqm_0, gqm_1, pt_pt, sa_sa, sm_sm, si_si, qk12, qg12_0, qs12_0, qg12_1, qg12_2, qs12_2, qg12_3, qs12_3, qg12_4, qg12_5, qg12_6, qg12_7, qs12_7, qg12_8, qs12_8, qg12_9, qg12_10, qg12_11, qg12_12, qg12_13, qs12_13, qg12_14, qg12_15, qg12_16, qg12_17, qg12_18, qs12_18, qg12_19, qg12_20, qg12_21, qg12_22, qg12_23, qs12_23, qg12_24, qs12_24, qg12_25, qs12_25, qg12_26, qs12_26, qg12_27, qs12_27, qg12_28, qs12_28, qg12_29, qg12_30, qs12_30, qg12_31, qg12_32, qg12_33, qg12_34, qg12_35, qg12_36, qs12_36, qg12_37, qs12_37, qg12_38, qs12_38, qg12_39, qs12_39, qg12_40, qs12_40, qg12_41, qg12_42, qs12_42, qg12_43, qs12_43, qg12_44, qs12_44, qg12_45, qs12_45, qg12_46, qs12_46, qg12_47, qa12_1, qe12_1, ql12_1, qa12_4, qe12_4, ql12_4, qa12_5, qe12_5, ql12_5, qa12_6, qe12_6, ql12_6, qa12_9, qe12_9, ql12_9, qa12_10, qe12_10, ql12_10, qa12_11, qe12_11, ql12_11, qa12_12, qe12_12, ql12_12, qa12_14, qe12_14, ql12_14, qa12_15, qe12_15, ql12_15, qa12_16, qe12_16, ql12_16, qa12_17, qe12_17, ql12_17, qa12_19, qe12_19, ql12_19, qa12_20, qe12_20, ql12_20, qa12_21, qe12_21, ql12_21, qa12_22, qe12_22, ql12_22, qa12_29, qe12_29, ql12_29, qa12_31, qe12_31, ql12_31, qa12_32, qe12_32, ql12_32, qa12_33, qe12_33, ql12_33, qa12_34, qe12_34, ql12_34, qa12_35, qe12_35, ql12_35, qa12_41, qe12_41, ql12_41, qa12_47, qe12_47, ql12_47, oi_si, oi_sl, oi_sa, oi_sm, oi_sv, oi_sq, ol_si, ol_sl, ol_sa, ol_sm, ol_sv, ol_sq, oa_si, oa_sl, oa_sa, oa_sm, oa_sv, oa_sq, om_si, om_sl, om_sa, om_sm, om_sv, om_sq, ov_si, ov_sl, ov_sa, ov_sm, ov_sv, ov_sq, oq_si, oq_sl, oq_sa, oq_sm, oq_sv, oq_sq, Nat.reduceEqDiff, ↓reduceIte, n_add, n_addl, n_ladd, n_add1, n_mul, n_lmul, n_mull, n_sub, n_subl, n_subm, n_lt, n_le, n_eq, n_ltl, n_llt, n_lel, n_lle, n_eql, n_leq, n_m1, n_m1l, n_lt0, n_ge0, i_okc, i_okl, if_true, if_false, not_true, not_false, Nat.not_lt_zero, Nat.zero_le, n1]
theorem m_inn38 (hF : 80 + 25 ≤ h.length) (hN : 2000 ≤ N) {TS : List Tok} : ∀ (n : Nat) (s : PS) (ts : List Tok) (m : Nat) (M : OD), PM TS ts M → DR s M → PSk s → ts.length ≤ 1001 → (cdAll s.2.2).length + ts.length ≤ 1001 → ts.length ≤ 2 * n + 1 → n + 1 < m → ∃ M', gi (fun zk zs => f_X12_inn_38 N zk zs.1 zs.2) m (80, pt sX12 80 M h) = f_X12_inn_70 N 80 (pt sX12 80 M' h) ∧ KL M M' ∧ match pInn n s ts with
    | .inl f => PF f M'
    | .inr s' => oi M' 8 = 0 ∧ DR s' M' := by
  intro n
  induction n with
  | zero =>
    intro s ts m M hP hD hs hl hb hl2 hm
    have k0 : (hd ts).1 = 0 := by
      obtain ⟨b, e, rfl, he, _⟩ := hP.2.1
      rw [List.length_append] at hl2
      have hl2 : b.length + 1 ≤ 1 := hl2
      have : b = [] := List.eq_nil_of_length_eq_zero (by omega)
      subst this
      exact he
    have q4 := hP.2.2.2.1
    have q5 := hP.2.2.2.2.1
    have q6 := hP.2.2.2.2.2.1
    obtain ⟨h1, h2, h3, h4⟩ := hP.hx
    have e4 := h4.1
    rw [k0] at e4
    refine ⟨M, ?_, KL.rf, q5, hD⟩
    obtain ⟨m, rfl⟩ : ∃ k, m = k + 1 := ⟨m - 1, by omega⟩
    rw [gi_1]
    generalize hz : gi _ m = zk
    dsimp only
    unfold f_X12_inn_38
    simp (disch := first | (with_reducible assumption) | (simp only [oi_si, oi_sl, oi_sa, oi_sm, oi_sv, oi_sq, ol_si, ol_sl, ol_sa, ol_sm, ol_sv, ol_sq, oa_si, oa_sl, oa_sa, oa_sm, oa_sv, oa_sq, om_si, om_sl, om_sa, om_sm, om_sv, om_sq, ov_si, ov_sl, ov_sa, ov_sm, ov_sv, ov_sq, oq_si, oq_sl, oq_sa, oq_sm, oq_sv, oq_sq, Nat.reduceEqDiff, ↓reduceIte]; done) | omega | (exact ixn (by omega) (by omega)) | (exact ixl (by decide) (by decide)) | (simp only [pt_len, pl, z0, z1, z2, z3, z4, z5, z6, z7, z8, z9, z10, z11, z12]; omega)) only [↓gb_m, ↓gc_m, ↓gl_s, ↓gg_m, gb_s, gc_s, gg_t, gqm_0, gqm_1, pt_pt, sa_sa, sm_sm, si_si, qk12, qg12_0, qs12_0, qg12_1, qg12_2, qs12_2, qg12_3, qs12_3, qg12_4, qg12_5, qg12_6, qg12_7, qs12_7, qg12_8, qs12_8, qg12_9, qg12_10, qg12_11, qg12_12, qg12_13, qs12_13, qg12_14, qg12_15, qg12_16, qg12_17, qg12_18, qs12_18, qg12_19, qg12_20, qg12_21, qg12_22, qg12_23, qs12_23, qg12_24, qs12_24, qg12_25, qs12_25, qg12_26, qs12_26, qg12_27, qs12_27, qg12_28, qs12_28, qg12_29, qg12_30, qs12_30, qg12_31, qg12_32, qg12_33, qg12_34, qg12_35, qg12_36, qs12_36, qg12_37, qs12_37, qg12_38, qs12_38, qg12_39, qs12_39, qg12_40, qs12_40, qg12_41, qg12_42, qs12_42, qg12_43, qs12_43, qg12_44, qs12_44, qg12_45, qs12_45, qg12_46, qs12_46, qg12_47, qa12_1, qe12_1, ql12_1, qa12_4, qe12_4, ql12_4, qa12_5, qe12_5, ql12_5, qa12_6, qe12_6, ql12_6, qa12_9, qe12_9, ql12_9, qa12_10, qe12_10, ql12_10, qa12_11, qe12_11, ql12_11, qa12_12, qe12_12, ql12_12, qa12_14, qe12_14, ql12_14, qa12_15, qe12_15, ql12_15, qa12_16, qe12_16, ql12_16, qa12_17, qe12_17, ql12_17, qa12_19, qe12_19, ql12_19, qa12_20, qe12_20, ql12_20, qa12_21, qe12_21, ql12_21, qa12_22, qe12_22, ql12_22, qa12_29, qe12_29, ql12_29, qa12_31, qe12_31, ql12_31, qa12_32, qe12_32, ql12_32, qa12_33, qe12_33, ql12_33, qa12_34, qe12_34, ql12_34, qa12_35, qe12_35, ql12_35, qa12_41, qe12_41, ql12_41, qa12_47, qe12_47, ql12_47, oi_si, oi_sl, oi_sa, oi_sm, oi_sv, oi_sq, ol_si, ol_sl, ol_sa, ol_sm, ol_sv, ol_sq, oa_si, oa_sl, oa_sa, oa_sm, oa_sv, oa_sq, om_si, om_sl, om_sa, om_sm, om_sv, om_sq, ov_si, ov_sl, ov_sa, ov_sm, ov_sv, ov_sq, oq_si, oq_sl, oq_sa, oq_sm, oq_sv, oq_sq, Nat.reduceEqDiff, ↓reduceIte, n_add, n_addl, n_ladd, n_add1, n_mul, n_lmul, n_mull, n_sub, n_subl, n_subm, n_lt, n_le, n_eq, n_ltl, n_llt, n_lel, n_lle, n_eql, n_leq, n_m1, n_m1l, n_lt0, n_ge0, i_okc, i_okl, if_true, if_false, not_true, not_false, Nat.not_lt_zero, Nat.zero_le, q5, q4, e4]
  | succ n ih =>
    intro s ts m M hP hD hs hl hb hl2 hm
    have q4 := hP.2.2.2.1
    have q5 := hP.2.2.2.2.1
    have q6 := hP.2.2.2.2.2.1
    obtain ⟨h1, h2, h3, h4⟩ := hP.hx
    have e4 := h4.1
    have k4 := hP.2.1.hd.1.1
    unfold pInn
    by_cases k0 : (hd ts).1 = 0
    · rw [if_pos k0]
      rw [k0] at e4
      refine ⟨M, ?_, KL.rf, q5, hD⟩
      obtain ⟨m, rfl⟩ : ∃ k, m = k + 1 := ⟨m - 1, by omega⟩
      rw [gi_1]
      generalize hz : gi _ m = zk
      dsimp only
      unfold f_X12_inn_38
      simp (disch := first | (with_reducible assumption) | (simp only [oi_si, oi_sl, oi_sa, oi_sm, oi_sv, oi_sq, ol_si, ol_sl, ol_sa, ol_sm, ol_sv, ol_sq, oa_si, oa_sl, oa_sa, oa_sm, oa_sv, oa_sq, om_si, om_sl, om_sa, om_sm, om_sv, om_sq, ov_si, ov_sl, ov_sa, ov_sm, ov_sv, ov_sq, oq_si, oq_sl, oq_sa, oq_sm, oq_sv, oq_sq, Nat.reduceEqDiff, ↓reduceIte]; done) | omega | (exact ixn (by omega) (by omega)) | (exact ixl (by decide) (by decide)) | (simp only [pt_len, pl, z0, z1, z2, z3, z4, z5, z6, z7, z8, z9, z10, z11, z12]; omega)) only [↓gb_m, ↓gc_m, ↓gl_s, ↓gg_m, gb_s, gc_s, gg_t, gqm_0, gqm_1, pt_pt, sa_sa, sm_sm, si_si, qk12, qg12_0, qs12_0, qg12_1, qg12_2, qs12_2, qg12_3, qs12_3, qg12_4, qg12_5, qg12_6, qg12_7, qs12_7, qg12_8, qs12_8, qg12_9, qg12_10, qg12_11, qg12_12, qg12_13, qs12_13, qg12_14, qg12_15, qg12_16, qg12_17, qg12_18, qs12_18, qg12_19, qg12_20, qg12_21, qg12_22, qg12_23, qs12_23, qg12_24, qs12_24, qg12_25, qs12_25, qg12_26, qs12_26, qg12_27, qs12_27, qg12_28, qs12_28, qg12_29, qg12_30, qs12_30, qg12_31, qg12_32, qg12_33, qg12_34, qg12_35, qg12_36, qs12_36, qg12_37, qs12_37, qg12_38, qs12_38, qg12_39, qs12_39, qg12_40, qs12_40, qg12_41, qg12_42, qs12_42, qg12_43, qs12_43, qg12_44, qs12_44, qg12_45, qs12_45, qg12_46, qs12_46, qg12_47, qa12_1, qe12_1, ql12_1, qa12_4, qe12_4, ql12_4, qa12_5, qe12_5, ql12_5, qa12_6, qe12_6, ql12_6, qa12_9, qe12_9, ql12_9, qa12_10, qe12_10, ql12_10, qa12_11, qe12_11, ql12_11, qa12_12, qe12_12, ql12_12, qa12_14, qe12_14, ql12_14, qa12_15, qe12_15, ql12_15, qa12_16, qe12_16, ql12_16, qa12_17, qe12_17, ql12_17, qa12_19, qe12_19, ql12_19, qa12_20, qe12_20, ql12_20, qa12_21, qe12_21, ql12_21, qa12_22, qe12_22, ql12_22, qa12_29, qe12_29, ql12_29, qa12_31, qe12_31, ql12_31, qa12_32, qe12_32, ql12_32, qa12_33, qe12_33, ql12_33, qa12_34, qe12_34, ql12_34, qa12_35, qe12_35, ql12_35, qa12_41, qe12_41, ql12_41, qa12_47, qe12_47, ql12_47, oi_si, oi_sl, oi_sa, oi_sm, oi_sv, oi_sq, ol_si, ol_sl, ol_sa, ol_sm, ol_sv, ol_sq, oa_si, oa_sl, oa_sa, oa_sm, oa_sv, oa_sq, om_si, om_sl, om_sa, om_sm, om_sv, om_sq, ov_si, ov_sl, ov_sa, ov_sm, ov_sv, ov_sq, oq_si, oq_sl, oq_sa, oq_sm, oq_sv, oq_sq, Nat.reduceEqDiff, ↓reduceIte, n_add, n_addl, n_ladd, n_add1, n_mul, n_lmul, n_mull, n_sub, n_subl, n_subm, n_lt, n_le, n_eq, n_ltl, n_llt, n_lel, n_lle, n_eql, n_leq, n_m1, n_m1l, n_lt0, n_ge0, i_okc, i_okl, if_true, if_false, not_true, not_false, Nat.not_lt_zero, Nat.zero_le, q5, q4, e4]
    · rw [if_neg k0]
      obtain ⟨M1, a1, a2, a3⟩ := m_readLine (N := N) hF hN hP hD hs (by omega)
      cases hq : pLine s ts with
      | inl f =>
        rw [hq] at a3
        have a3 : PF f M1 := a3
        have b1 := m_inn38F (N := N) hF a3 (m := m - 2)
        rw [show m - 2 + 1 = m - 1 by omega] at b1
        refine ⟨M1, ?_, a2, a3⟩
        obtain ⟨m, rfl⟩ : ∃ k, m = k + 1 := ⟨m - 1, by omega⟩
        rw [gi_1]
        generalize hz : gi _ m = zk
        dsimp only
        rw [show m + 1 - 1 = m by omega, hz] at b1
        unfold f_X12_inn_38
        simp (disch := first | (with_reducible assumption) | (simp only [oi_si, oi_sl, oi_sa, oi_sm, oi_sv, oi_sq, ol_si, ol_sl, ol_sa, ol_sm, ol_sv, ol_sq, oa_si, oa_sl, oa_sa, oa_sm, oa_sv, oa_sq, om_si, om_sl, om_sa, om_sm, om_sv, om_sq, ov_si, ov_sl, ov_sa, ov_sm, ov_sv, ov_sq, oq_si, oq_sl, oq_sa, oq_sm, oq_sv, oq_sq, Nat.reduceEqDiff, ↓reduceIte]; done) | omega | (exact ixn (by omega) (by omega)) | (exact ixl (by decide) (by decide)) | (simp only [pt_len, pl, z0, z1, z2, z3, z4, z5, z6, z7, z8, z9, z10, z11, z12]; omega)) only [↓gb_m, ↓gc_m, ↓gl_s, ↓gg_m, gb_s, gc_s, gg_t, gqm_0, gqm_1, pt_pt, sa_sa, sm_sm, si_si, qk12, qg12_0, qs12_0, qg12_1, qg12_2, qs12_2, qg12_3, qs12_3, qg12_4, qg12_5, qg12_6, qg12_7, qs12_7, qg12_8, qs12_8, qg12_9, qg12_10, qg12_11, qg12_12, qg12_13, qs12_13, qg12_14, qg12_15, qg12_16, qg12_17, qg12_18, qs12_18, qg12_19, qg12_20, qg12_21, qg12_22, qg12_23, qs12_23, qg12_24, qs12_24, qg12_25, qs12_25, qg12_26, qs12_26, qg12_27, qs12_27, qg12_28, qs12_28, qg12_29, qg12_30, qs12_30, qg12_31, qg12_32, qg12_33, qg12_34, qg12_35, qg12_36, qs12_36, qg12_37, qs12_37, qg12_38, qs12_38, qg12_39, qs12_39, qg12_40, qs12_40, qg12_41, qg12_42, qs12_42, qg12_43, qs12_43, qg12_44, qs12_44, qg12_45, qs12_45, qg12_46, qs12_46, qg12_47, qa12_1, qe12_1, ql12_1, qa12_4, qe12_4, ql12_4, qa12_5, qe12_5, ql12_5, qa12_6, qe12_6, ql12_6, qa12_9, qe12_9, ql12_9, qa12_10, qe12_10, ql12_10, qa12_11, qe12_11, ql12_11, qa12_12, qe12_12, ql12_12, qa12_14, qe12_14, ql12_14, qa12_15, qe12_15, ql12_15, qa12_16, qe12_16, ql12_16, qa12_17, qe12_17, ql12_17, qa12_19, qe12_19, ql12_19, qa12_20, qe12_20, ql12_20, qa12_21, qe12_21, ql12_21, qa12_22, qe12_22, ql12_22, qa12_29, qe12_29, ql12_29, qa12_31, qe12_31, ql12_31, qa12_32, qe12_32, ql12_32, qa12_33, qe12_33, ql12_33, qa12_34, qe12_34, ql12_34, qa12_35, qe12_35, ql12_35, qa12_41, qe12_41, ql12_41, qa12_47, qe12_47, ql12_47, oi_si, oi_sl, oi_sa, oi_sm, oi_sv, oi_sq, ol_si, ol_sl, ol_sa, ol_sm, ol_sv, ol_sq, oa_si, oa_sl, oa_sa, oa_sm, oa_sv, oa_sq, om_si, om_sl, om_sa, om_sm, om_sv, om_sq, ov_si, ov_sl, ov_sa, ov_sm, ov_sv, ov_sq, oq_si, oq_sl, oq_sa, oq_sm, oq_sv, oq_sq, Nat.reduceEqDiff, ↓reduceIte, n_add, n_addl, n_ladd, n_add1, n_mul, n_lmul, n_mull, n_sub, n_subl, n_subm, n_lt, n_le, n_eq, n_ltl, n_llt, n_lel, n_lle, n_eql, n_leq, n_m1, n_m1l, n_lt0, n_ge0, i_okc, i_okl, if_true, if_false, not_true, not_false, Nat.not_lt_zero, Nat.zero_le, q5, q4, e4, k0, a1, m_takeSgF hF a3, b1]
      | inr x =>
        rw [hq] at a3
        obtain ⟨a3, a4⟩ := a3
        obtain ⟨l1, l2, l3⟩ := pLine_ok hs hP.2.1 hl hq
        have ll := l1.len
        have ts1 : f_X12_takeSign N 80 59 (pt sX12 80 M1 h) = some (pt sX12 80 (if isSg 59 x.2 then si M1 7 (Int32.ofNat (TS.length - x.2.length + 1)) else si M1 8 (Int32.ofNat (flt 1 x.2))) h) := m_takeSg hF a3 (s := 59) (by omega)
        show ∃ M', _ ∧ _ ∧ match (if isSg 59 x.2 then pInn n x.1 x.2.tail else .inl (flt 1 x.2)) with
          | .inl f => PF f M'
          | .inr s' => oi M' 8 = 0 ∧ DR s' M'
        by_cases c : isSg 59 x.2 = true
        · rw [if_pos c]
          rw [if_pos c] at ts1
          have k1 : (hd x.2).1 ≠ 0 := by rw [(isSg_k c).1]; decide
          have t1 := Suf.tl a3.2.1 k1
          have l4 := t1.len
          have a5 := a3.adv k1
          obtain ⟨M', b1, b2, b3⟩ := ih x.1 x.2.tail (m - 1) _ a5 (a4.kp (k_si (A := [7]) (by decide)) (by decide)) l2 (by omega) (by omega) (by omega) (by omega)
          refine ⟨M', ?_, (a2.tr (KL.of (k_si (by decide)))).tr b2, b3⟩
          obtain ⟨m, rfl⟩ : ∃ k, m = k + 1 := ⟨m - 1, by omega⟩
          rw [gi_1]
          generalize hz : gi _ m = zk
          dsimp only
          rw [show m + 1 - 1 = m by omega, hz] at b1
          unfold f_X12_inn_38
          simp (disch := first | (with_reducible assumption) | (simp only [oi_si, oi_sl, oi_sa, oi_sm, oi_sv, oi_sq, ol_si, ol_sl, ol_sa, ol_sm, ol_sv, ol_sq, oa_si, oa_sl, oa_sa, oa_sm, oa_sv, oa_sq, om_si, om_sl, om_sa, om_sm, om_sv, om_sq, ov_si, ov_sl, ov_sa, ov_sm, ov_sv, ov_sq, oq_si, oq_sl, oq_sa, oq_sm, oq_sv, oq_sq, Nat.reduceEqDiff, ↓reduceIte]; done) | omega | (exact ixn (by omega) (by omega)) | (exact ixl (by decide) (by decide)) | (simp only [pt_len, pl, z0, z1, z2, z3, z4, z5, z6, z7, z8, z9, z10, z11, z12]; omega)) only [↓gb_m, ↓gc_m, ↓gl_s, ↓gg_m, gb_s, gc_s, gg_t, gqm_0, gqm_1, pt_pt, sa_sa, sm_sm, si_si, qk12, qg12_0, qs12_0, qg12_1, qg12_2, qs12_2, qg12_3, qs12_3, qg12_4, qg12_5, qg12_6, qg12_7, qs12_7, qg12_8, qs12_8, qg12_9, qg12_10, qg12_11, qg12_12, qg12_13, qs12_13, qg12_14, qg12_15, qg12_16, qg12_17, qg12_18, qs12_18, qg12_19, qg12_20, qg12_21, qg12_22, qg12_23, qs12_23, qg12_24, qs12_24, qg12_25, qs12_25, qg12_26, qs12_26, qg12_27, qs12_27, qg12_28, qs12_28, qg12_29, qg12_30, qs12_30, qg12_31, qg12_32, qg12_33, qg12_34, qg12_35, qg12_36, qs12_36, qg12_37, qs12_37, qg12_38, qs12_38, qg12_39, qs12_39, qg12_40, qs12_40, qg12_41, qg12_42, qs12_42, qg12_43, qs12_43, qg12_44, qs12_44, qg12_45, qs12_45, qg12_46, qs12_46, qg12_47, qa12_1, qe12_1, ql12_1, qa12_4, qe12_4, ql12_4, qa12_5, qe12_5, ql12_5, qa12_6, qe12_6, ql12_6, qa12_9, qe12_9, ql12_9, qa12_10, qe12_10, ql12_10, qa12_11, qe12_11, ql12_11, qa12_12, qe12_12, ql12_12, qa12_14, qe12_14, ql12_14, qa12_15, qe12_15, ql12_15, qa12_16, qe12_16, ql12_16, qa12_17, qe12_17, ql12_17, qa12_19, qe12_19, ql12_19, qa12_20, qe12_20, ql12_20, qa12_21, qe12_21, ql12_21, qa12_22, qe12_22, ql12_22, qa12_29, qe12_29, ql12_29, qa12_31, qe12_31, ql12_31, qa12_32, qe12_32, ql12_32, qa12_33, qe12_33, ql12_33, qa12_34, qe12_34, ql12_34, qa12_35, qe12_35, ql12_35, qa12_41, qe12_41, ql12_41, qa12_47, qe12_47, ql12_47, oi_si, oi_sl, oi_sa, oi_sm, oi_sv, oi_sq, ol_si, ol_sl, ol_sa, ol_sm, ol_sv, ol_sq, oa_si, oa_sl, oa_sa, oa_sm, oa_sv, oa_sq, om_si, om_sl, om_sa, om_sm, om_sv, om_sq, ov_si, ov_sl, ov_sa, ov_sm, ov_sv, ov_sq, oq_si, oq_sl, oq_sa, oq_sm, oq_sv, oq_sq, Nat.reduceEqDiff, ↓reduceIte, n_add, n_addl, n_ladd, n_add1, n_mul, n_lmul, n_mull, n_sub, n_subl, n_subm, n_lt, n_le, n_eq, n_ltl, n_llt, n_lel, n_lle, n_eql, n_leq, n_m1, n_m1l, n_lt0, n_ge0, i_okc, i_okl, if_true, if_false, not_true, not_false, Nat.not_lt_zero, Nat.zero_le, q5, q4, e4, k0, a1, ts1, b1]
        · rw [if_neg c]
          rw [if_neg c] at ts1
          have w2 := (m_wrong (N := N) hF a3 (k := 1) (by omega) (by omega)).2
          have b1 := m_inn38F (N := N) hF w2 (m := m - 2)
          rw [show m - 2 + 1 = m - 1 by omega] at b1
          refine ⟨_, ?_, a2.tr (KL.of (k_si (by decide))), w2⟩
          obtain ⟨m, rfl⟩ : ∃ k, m = k + 1 := ⟨m - 1, by omega⟩
          rw [gi_1]
          generalize hz : gi _ m = zk
          dsimp only
          rw [show m + 1 - 1 = m by omega, hz] at b1
          unfold f_X12_inn_38
          simp (disch := first | (with_reducible assumption) | (simp only [oi_si, oi_sl, oi_sa, oi_sm, oi_sv, oi_sq, ol_si, ol_sl, ol_sa, ol_sm, ol_sv, ol_sq, oa_si, oa_sl, oa_sa, oa_sm, oa_sv, oa_sq, om_si, om_sl, om_sa, om_sm, om_sv, om_sq, ov_si, ov_sl, ov_sa, ov_sm, ov_sv, ov_sq, oq_si, oq_sl, oq_sa, oq_sm, oq_sv, oq_sq, Nat.reduceEqDiff, ↓reduceIte]; done) | omega | (exact ixn (by omega) (by omega)) | (exact ixl (by decide) (by decide)) | (simp only [pt_len, pl, z0, z1, z2, z3, z4, z5, z6, z7, z8, z9, z10, z11, z12]; omega)) only [↓gb_m, ↓gc_m, ↓gl_s, ↓gg_m, gb_s, gc_s, gg_t, gqm_0, gqm_1, pt_pt, sa_sa, sm_sm, si_si, qk12, qg12_0, qs12_0, qg12_1, qg12_2, qs12_2, qg12_3, qs12_3, qg12_4, qg12_5, qg12_6, qg12_7, qs12_7, qg12_8, qs12_8, qg12_9, qg12_10, qg12_11, qg12_12, qg12_13, qs12_13, qg12_14, qg12_15, qg12_16, qg12_17, qg12_18, qs12_18, qg12_19, qg12_20, qg12_21, qg12_22, qg12_23, qs12_23, qg12_24, qs12_24, qg12_25, qs12_25, qg12_26, qs12_26, qg12_27, qs12_27, qg12_28, qs12_28, qg12_29, qg12_30, qs12_30, qg12_31, qg12_32, qg12_33, qg12_34, qg12_35, qg12_36, qs12_36, qg12_37, qs12_37, qg12_38, qs12_38, qg12_39, qs12_39, qg12_40, qs12_40, qg12_41, qg12_42, qs12_42, qg12_43, qs12_43, qg12_44, qs12_44, qg12_45, qs12_45, qg12_46, qs12_46, qg12_47, qa12_1, qe12_1, ql12_1, qa12_4, qe12_4, ql12_4, qa12_5, qe12_5, ql12_5, qa12_6, qe12_6, ql12_6, qa12_9, qe12_9, ql12_9, qa12_10, qe12_10, ql12_10, qa12_11, qe12_11, ql12_11, qa12_12, qe12_12, ql12_12, qa12_14, qe12_14, ql12_14, qa12_15, qe12_15, ql12_15, qa12_16, qe12_16, ql12_16, qa12_17, qe12_17, ql12_17, qa12_19, qe12_19, ql12_19, qa12_20, qe12_20, ql12_20, qa12_21, qe12_21, ql12_21, qa12_22, qe12_22, ql12_22, qa12_29, qe12_29, ql12_29, qa12_31, qe12_31, ql12_31, qa12_32, qe12_32, ql12_32, qa12_33, qe12_33, ql12_33, qa12_34, qe12_34, ql12_34, qa12_35, qe12_35, ql12_35, qa12_41, qe12_41, ql12_41, qa12_47, qe12_47, ql12_47, oi_si, oi_sl, oi_sa, oi_sm, oi_sv, oi_sq, ol_si, ol_sl, ol_sa, ol_sm, ol_sv, ol_sq, oa_si, oa_sl, oa_sa, oa_sm, oa_sv, oa_sq, om_si, om_sl, om_sa, om_sm, om_sv, om_sq, ov_si, ov_sl, ov_sa, ov_sm, ov_sv, ov_sq, oq_si, oq_sl, oq_sa, oq_sm, oq_sv, oq_sq, Nat.reduceEqDiff, ↓reduceIte, n_add, n_addl, n_ladd, n_add1, n_mul, n_lmul, n_mull, n_sub, n_subl, n_subm, n_lt, n_le, n_eq, n_ltl, n_llt, n_lel, n_lle, n_eql, n_leq, n_m1, n_m1l, n_lt0, n_ge0, i_okc, i_okl, if_true, if_false, not_true, not_false, Nat.not_lt_zero, Nat.zero_le, q5, q4, e4, k0, a1, ts1, b1]
theorem m_inn16 (hF : 80 + 25 ≤ h.length) : ∀ n k m M, k + n = 60 → n < m → ∃ M', gi (fun zk zs => f_X12_inn_16 N zk zs.1 zs.2.1 zs.2.2) m (80, Int32.ofNat k, pt sX12 80 M h) = gi (fun zk zs => f_X12_inn_38 N zk zs.1 zs.2) N (80, pt sX12 80 M' h) ∧ Keep [10] M M' ∧ (∀ j, 60 + k ≤ j → j < 120 → oa M' 10 j = 0) ∧ ∀ j, j < 60 + k → oa M' 10 j = oa M 10 j := by
  intro n
  induction n with
  | zero =>
    intro k m M hk hm
    have : k = 60 := by omega
    subst this
    refine ⟨M, ?_, Keep.rf, fun j a b => by omega, fun _ _ => rfl⟩
    obtain ⟨m, rfl⟩ : ∃ k, m = k + 1 := ⟨m - 1, by omega⟩
    rw [gi_1]
    generalize hz : gi _ m = zk
    dsimp only
    unfold f_X12_inn_16
    simp (disch := first | (with_reducible assumption) | (simp only [oi_si, oi_sl, oi_sa, oi_sm, oi_sv, oi_sq, ol_si, ol_sl, ol_sa, ol_sm, ol_sv, ol_sq, oa_si, oa_sl, oa_sa, oa_sm, oa_sv, oa_sq, om_si, om_sl, om_sa, om_sm, om_sv, om_sq, ov_si, ov_sl, ov_sa, ov_sm, ov_sv, ov_sq, oq_si, oq_sl, oq_sa, oq_sm, oq_sv, oq_sq, Nat.reduceEqDiff, ↓reduceIte]; done) | omega | (exact ixn (by omega) (by omega)) | (exact ixl (by decide) (by decide)) | (simp only [pt_len, pl, z0, z1, z2, z3, z4, z5, z6, z7, z8, z9, z10, z11, z12]; omega)) only [↓gb_m, ↓gc_m, ↓gl_s, ↓gg_m, gb_s, gc_s, gg_t, gqm_0, gqm_1, pt_pt, sa_sa, sm_sm, si_si, qk12, qg12_0, qs12_0, qg12_1, qg12_2, qs12_2, qg12_3, qs12_3, qg12_4, qg12_5, qg12_6, qg12_7, qs12_7, qg12_8, qs12_8, qg12_9, qg12_10, qg12_11, qg12_12, qg12_13, qs12_13, qg12_14, qg12_15, qg12_16, qg12_17, qg12_18, qs12_18, qg12_19, qg12_20, qg12_21, qg12_22, qg12_23, qs12_23, qg12_24, qs12_24, qg12_25, qs12_25, qg12_26, qs12_26, qg12_27, qs12_27, qg12_28, qs12_28, qg12_29, qg12_30, qs12_30, qg12_31, qg12_32, qg12_33, qg12_34, qg12_35, qg12_36, qs12_36, qg12_37, qs12_37, qg12_38, qs12_38, qg12_39, qs12_39, qg12_40, qs12_40, qg12_41, qg12_42, qs12_42, qg12_43, qs12_43, qg12_44, qs12_44, qg12_45, qs12_45, qg12_46, qs12_46, qg12_47, qa12_1, qe12_1, ql12_1, qa12_4, qe12_4, ql12_4, qa12_5, qe12_5, ql12_5, qa12_6, qe12_6, ql12_6, qa12_9, qe12_9, ql12_9, qa12_10, qe12_10, ql12_10, qa12_11, qe12_11, ql12_11, qa12_12, qe12_12, ql12_12, qa12_14, qe12_14, ql12_14, qa12_15, qe12_15, ql12_15, qa12_16, qe12_16, ql12_16, qa12_17, qe12_17, ql12_17, qa12_19, qe12_19, ql12_19, qa12_20, qe12_20, ql12_20, qa12_21, qe12_21, ql12_21, qa12_22, qe12_22, ql12_22, qa12_29, qe12_29, ql12_29, qa12_31, qe12_31, ql12_31, qa12_32, qe12_32, ql12_32, qa12_33, qe12_33, ql12_33, qa12_34, qe12_34, ql12_34, qa12_35, qe12_35, ql12_35, qa12_41, qe12_41, ql12_41, qa12_47, qe12_47, ql12_47, oi_si, oi_sl, oi_sa, oi_sm, oi_sv, oi_sq, ol_si, ol_sl, ol_sa, ol_sm, ol_sv, ol_sq, oa_si, oa_sl, oa_sa, oa_sm, oa_sv, oa_sq, om_si, om_sl, om_sa, om_sm, om_sv, om_sq, ov_si, ov_sl, ov_sa, ov_sm, ov_sv, ov_sq, oq_si, oq_sl, oq_sa, oq_sm, oq_sv, oq_sq, Nat.reduceEqDiff, ↓reduceIte, n_add, n_addl, n_ladd, n_add1, n_mul, n_lmul, n_mull, n_sub, n_subl, n_subm, n_lt, n_le, n_eq, n_ltl, n_llt, n_lel, n_lle, n_eql, n_leq, n_m1, n_m1l, n_lt0, n_ge0, i_okc, i_okl, if_true, if_false, not_true, not_false, Nat.not_lt_zero, Nat.zero_le, Nat.le_refl]
  | succ n ih =>
    intro k m M hk hm
    obtain ⟨M', a1, a2, a3, a4⟩ := ih (k + 1) (m - 1) (sa M 10 (upd (oa M 10) (60 + k) 0)) (by omega) (by omega)
    refine ⟨M', ?_, (k_sa (by decide)).tr a2, ?_, ?_⟩
    · skip
      obtain ⟨m, rfl⟩ : ∃ k, m = k + 1 := ⟨m - 1, by omega⟩
      rw [gi_1]
      generalize hz : gi _ m = zk
      dsimp only
      rw [show m + 1 - 1 = m by omega, hz] at a1
      unfold f_X12_inn_16
      have c : ((60 : Int32) ≤ Int32.ofNat k) = False := nleF (a := 60) (by omega) (by omega) (by omega)
      simp (disch := first | (with_reducible assumption) | (simp only [oi_si, oi_sl, oi_sa, oi_sm, oi_sv, oi_sq, ol_si, ol_sl, ol_sa, ol_sm, ol_sv, ol_sq, oa_si, oa_sl, oa_sa, oa_sm, oa_sv, oa_sq, om_si, om_sl, om_sa, om_sm, om_sv, om_sq, ov_si, ov_sl, ov_sa, ov_sm, ov_sv, ov_sq, oq_si, oq_sl, oq_sa, oq_sm, oq_sv, oq_sq, Nat.reduceEqDiff, ↓reduceIte]; done) | omega | (exact ixn (by omega) (by omega)) | (exact ixl (by decide) (by decide)) | (simp only [pt_len, pl, z0, z1, z2, z3, z4, z5, z6, z7, z8, z9, z10, z11, z12]; omega)) only [↓gb_m, ↓gc_m, ↓gl_s, ↓gg_m, gb_s, gc_s, gg_t, gqm_0, gqm_1, pt_pt, sa_sa, sm_sm, si_si, qk12, qg12_0, qs12_0, qg12_1, qg12_2, qs12_2, qg12_3, qs12_3, qg12_4, qg12_5, qg12_6, qg12_7, qs12_7, qg12_8, qs12_8, qg12_9, qg12_10, qg12_11, qg12_12, qg12_13, qs12_13, qg12_14, qg12_15, qg12_16, qg12_17, qg12_18, qs12_18, qg12_19, qg12_20, qg12_21, qg12_22, qg12_23, qs12_23, qg12_24, qs12_24, qg12_25, qs12_25, qg12_26, qs12_26, qg12_27, qs12_27, qg12_28, qs12_28, qg12_29, qg12_30, qs12_30, qg12_31, qg12_32, qg12_33, qg12_34, qg12_35, qg12_36, qs12_36, qg12_37, qs12_37, qg12_38, qs12_38, qg12_39, qs12_39, qg12_40, qs12_40, qg12_41, qg12_42, qs12_42, qg12_43, qs12_43, qg12_44, qs12_44, qg12_45, qs12_45, qg12_46, qs12_46, qg12_47, qa12_1, qe12_1, ql12_1, qa12_4, qe12_4, ql12_4, qa12_5, qe12_5, ql12_5, qa12_6, qe12_6, ql12_6, qa12_9, qe12_9, ql12_9, qa12_10, qe12_10, ql12_10, qa12_11, qe12_11, ql12_11, qa12_12, qe12_12, ql12_12, qa12_14, qe12_14, ql12_14, qa12_15, qe12_15, ql12_15, qa12_16, qe12_16, ql12_16, qa12_17, qe12_17, ql12_17, qa12_19, qe12_19, ql12_19, qa12_20, qe12_20, ql12_20, qa12_21, qe12_21, ql12_21, qa12_22, qe12_22, ql12_22, qa12_29, qe12_29, ql12_29, qa12_31, qe12_31, ql12_31, qa12_32, qe12_32, ql12_32, qa12_33, qe12_33, ql12_33, qa12_34, qe12_34, ql12_34, qa12_35, qe12_35, ql12_35, qa12_41, qe12_41, ql12_41, qa12_47, qe12_47, ql12_47, oi_si, oi_sl, oi_sa, oi_sm, oi_sv, oi_sq, ol_si, ol_sl, ol_sa, ol_sm, ol_sv, ol_sq, oa_si, oa_sl, oa_sa, oa_sm, oa_sv, oa_sq, om_si, om_sl, om_sa, om_sm, om_sv, om_sq, ov_si, ov_sl, ov_sa, ov_sm, ov_sv, ov_sq, oq_si, oq_sl, oq_sa, oq_sm, oq_sv, oq_sq, Nat.reduceEqDiff, ↓reduceIte, n_add, n_addl, n_ladd, n_add1, n_mul, n_lmul, n_mull, n_sub, n_subl, n_subm, n_lt, n_le, n_eq, n_ltl, n_llt, n_lel, n_lle, n_eql, n_leq, n_m1, n_m1l, n_lt0, n_ge0, i_okc, i_okl, if_true, if_false, not_true, not_false, Nat.not_lt_zero, Nat.zero_le, c, gnar_0, a1]
    · intro j j1 j2
      by_cases z : j = 60 + k
      · rw [a4 j (by omega), oa_sa, if_pos rfl, upd_eq z]
      · exact a3 j (by omega) j2
    · intro j j1
      rw [a4 j (by omega), oa_sa, if_pos rfl, upd_ne (by omega)]
theorem m_inn84 (hF : 80 + 25 ≤ h.length) : ∀ n k m M, k + n = 60 → n < m → ∃ M', gi (fun zk zs => f_X12_inn_84 N zk zs.1 zs.2.1 zs.2.2) m (80, Int32.ofNat k, pt sX12 80 M h) = gi (fun zk zs => f_X12_inn_113 N zk zs.1 zs.2.1 zs.2.2) N (80, 0, pt sX12 80 M' h) ∧ Keep [10] M M' ∧ (∀ j, k ≤ j → j < 60 → oa M' 10 j = oa M 10 (60 + j)) ∧ ∀ j, j < k → oa M' 10 j = oa M 10 j := by
  intro n
  induction n with
  | zero =>
    intro k m M hk hm
    have : k = 60 := by omega
    subst this
    refine ⟨M, ?_, Keep.rf, fun j a b => by omega, fun _ _ => rfl⟩
    obtain ⟨m, rfl⟩ : ∃ k, m = k + 1 := ⟨m - 1, by omega⟩
    rw [gi_1]
    generalize hz : gi _ m = zk
    dsimp only
    unfold f_X12_inn_84
    simp (disch := first | (with_reducible assumption) | (simp only [oi_si, oi_sl, oi_sa, oi_sm, oi_sv, oi_sq, ol_si, ol_sl, ol_sa, ol_sm, ol_sv, ol_sq, oa_si, oa_sl, oa_sa, oa_sm, oa_sv, oa_sq, om_si, om_sl, om_sa, om_sm, om_sv, om_sq, ov_si, ov_sl, ov_sa, ov_sm, ov_sv, ov_sq, oq_si, oq_sl, oq_sa, oq_sm, oq_sv, oq_sq, Nat.reduceEqDiff, ↓reduceIte]; done) | omega | (exact ixn (by omega) (by omega)) | (exact ixl (by decide) (by decide)) | (simp only [pt_len, pl, z0, z1, z2, z3, z4, z5, z6, z7, z8, z9, z10, z11, z12]; omega)) only [↓gb_m, ↓gc_m, ↓gl_s, ↓gg_m, gb_s, gc_s, gg_t, gqm_0, gqm_1, pt_pt, sa_sa, sm_sm, si_si, qk12, qg12_0, qs12_0, qg12_1, qg12_2, qs12_2, qg12_3, qs12_3, qg12_4, qg12_5, qg12_6, qg12_7, qs12_7, qg12_8, qs12_8, qg12_9, qg12_10, qg12_11, qg12_12, qg12_13, qs12_13, qg12_14, qg12_15, qg12_16, qg12_17, qg12_18, qs12_18, qg12_19, qg12_20, qg12_21, qg12_22, qg12_23, qs12_23, qg12_24, qs12_24, qg12_25, qs12_25, qg12_26, qs12_26, qg12_27, qs12_27, qg12_28, qs12_28, qg12_29, qg12_30, qs12_30, qg12_31, qg12_32, qg12_33, qg12_34, qg12_35, qg12_36, qs12_36, qg12_37, qs12_37, qg12_38, qs12_38, qg12_39, qs12_39, qg12_40, qs12_40, qg12_41, qg12_42, qs12_42, qg12_43, qs12_43, qg12_44, qs12_44, qg12_45, qs12_45, qg12_46, qs12_46, qg12_47, qa12_1, qe12_1, ql12_1, qa12_4, qe12_4, ql12_4, qa12_5, qe12_5, ql12_5, qa12_6, qe12_6, ql12_6, qa12_9, qe12_9, ql12_9, qa12_10, qe12_10, ql12_10, qa12_11, qe12_11, ql12_11, qa12_12, qe12_12, ql12_12, qa12_14, qe12_14, ql12_14, qa12_15, qe12_15, ql12_15, qa12_16, qe12_16, ql12_16, qa12_17, qe12_17, ql12_17, qa12_19, qe12_19, ql12_19, qa12_20, qe12_20, ql12_20, qa12_21, qe12_21, ql12_21, qa12_22, qe12_22, ql12_22, qa12_29, qe12_29, ql12_29, qa12_31, qe12_31, ql12_31, qa12_32, qe12_32, ql12_32, qa12_33, qe12_33, ql12_33, qa12_34, qe12_34, ql12_34, qa12_35, qe12_35, ql12_35, qa12_41, qe12_41, ql12_41, qa12_47, qe12_47, ql12_47, oi_si, oi_sl, oi_sa, oi_sm, oi_sv, oi_sq, ol_si, ol_sl, ol_sa, ol_sm, ol_sv, ol_sq, oa_si, oa_sl, oa_sa, oa_sm, oa_sv, oa_sq, om_si, om_sl, om_sa, om_sm, om_sv, om_sq, ov_si, ov_sl, ov_sa, ov_sm, ov_sv, ov_sq, oq_si, oq_sl, oq_sa, oq_sm, oq_sv, oq_sq, Nat.reduceEqDiff, ↓reduceIte, n_add, n_addl, n_ladd, n_add1, n_mul, n_lmul, n_mull, n_sub, n_subl, n_subm, n_lt, n_le, n_eq, n_ltl, n_llt, n_lel, n_lle, n_eql, n_leq, n_m1, n_m1l, n_lt0, n_ge0, i_okc, i_okl, if_true, if_false, not_true, not_false, Nat.not_lt_zero, Nat.zero_le, Nat.le_refl]
  | succ n ih =>
    intro k m M hk hm
    obtain ⟨M', a1, a2, a3, a4⟩ := ih (k + 1) (m - 1) (sa M 10 (upd (oa M 10) k (oa M 10 (60 + k)))) (by omega) (by omega)
    refine ⟨M', ?_, (k_sa (by decide)).tr a2, ?_, ?_⟩
    · skip
      obtain ⟨m, rfl⟩ : ∃ k, m = k + 1 := ⟨m - 1, by omega⟩
      rw [gi_1]
      generalize hz : gi _ m = zk
      dsimp only
      rw [show m + 1 - 1 = m by omega, hz] at a1
      unfold f_X12_inn_84
      have c : ((60 : Int32) ≤ Int32.ofNat k) = False := nleF (a := 60) (by omega) (by omega) (by omega)
      simp (disch := first | (with_reducible assumption) | (simp only [oi_si, oi_sl, oi_sa, oi_sm, oi_sv, oi_sq, ol_si, ol_sl, ol_sa, ol_sm, ol_sv, ol_sq, oa_si, oa_sl, oa_sa, oa_sm, oa_sv, oa_sq, om_si, om_sl, om_sa, om_sm, om_sv, om_sq, ov_si, ov_sl, ov_sa, ov_sm, ov_sv, ov_sq, oq_si, oq_sl, oq_sa, oq_sm, oq_sv, oq_sq, Nat.reduceEqDiff, ↓reduceIte]; done) | omega | (exact ixn (by omega) (by omega)) | (exact ixl (by decide) (by decide)) | (simp only [pt_len, pl, z0, z1, z2, z3, z4, z5, z6, z7, z8, z9, z10, z11, z12]; omega)) only [↓gb_m, ↓gc_m, ↓gl_s, ↓gg_m, gb_s, gc_s, gg_t, gqm_0, gqm_1, pt_pt, sa_sa, sm_sm, si_si, qk12, qg12_0, qs12_0, qg12_1, qg12_2, qs12_2, qg12_3, qs12_3, qg12_4, qg12_5, qg12_6, qg12_7, qs12_7, qg12_8, qs12_8, qg12_9, qg12_10, qg12_11, qg12_12, qg12_13, qs12_13, qg12_14, qg12_15, qg12_16, qg12_17, qg12_18, qs12_18, qg12_19, qg12_20, qg12_21, qg12_22, qg12_23, qs12_23, qg12_24, qs12_24, qg12_25, qs12_25, qg12_26, qs12_26, qg12_27, qs12_27, qg12_28, qs12_28, qg12_29, qg12_30, qs12_30, qg12_31, qg12_32, qg12_33, qg12_34, qg12_35, qg12_36, qs12_36, qg12_37, qs12_37, qg12_38, qs12_38, qg12_39, qs12_39, qg12_40, qs12_40, qg12_41, qg12_42, qs12_42, qg12_43, qs12_43, qg12_44, qs12_44, qg12_45, qs12_45, qg12_46, qs12_46, qg12_47, qa12_1, qe12_1, ql12_1, qa12_4, qe12_4, ql12_4, qa12_5, qe12_5, ql12_5, qa12_6, qe12_6, ql12_6, qa12_9, qe12_9, ql12_9, qa12_10, qe12_10, ql12_10, qa12_11, qe12_11, ql12_11, qa12_12, qe12_12, ql12_12, qa12_14, qe12_14, ql12_14, qa12_15, qe12_15, ql12_15, qa12_16, qe12_16, ql12_16, qa12_17, qe12_17, ql12_17, qa12_19, qe12_19, ql12_19, qa12_20, qe12_20, ql12_20, qa12_21, qe12_21, ql12_21, qa12_22, qe12_22, ql12_22, qa12_29, qe12_29, ql12_29, qa12_31, qe12_31, ql12_31, qa12_32, qe12_32, ql12_32, qa12_33, qe12_33, ql12_33, qa12_34, qe12_34, ql12_34, qa12_35, qe12_35, ql12_35, qa12_41, qe12_41, ql12_41, qa12_47, qe12_47, ql12_47, oi_si, oi_sl, oi_sa, oi_sm, oi_sv, oi_sq, ol_si, ol_sl, ol_sa, ol_sm, ol_sv, ol_sq, oa_si, oa_sl, oa_sa, oa_sm, oa_sv, oa_sq, om_si, om_sl, om_sa, om_sm, om_sv, om_sq, ov_si, ov_sl, ov_sa, ov_sm, ov_sv, ov_sq, oq_si, oq_sl, oq_sa, oq_sm, oq_sv, oq_sq, Nat.reduceEqDiff, ↓reduceIte, n_add, n_addl, n_ladd, n_add1, n_mul, n_lmul, n_mull, n_sub, n_subl, n_subm, n_lt, n_le, n_eq, n_ltl, n_llt, n_lel, n_lle, n_eql, n_leq, n_m1, n_m1l, n_lt0, n_ge0, i_okc, i_okl, if_true, if_false, not_true, not_false, Nat.not_lt_zero, Nat.zero_le, c, gnar_0, a1]
    · intro j j1 j2
      by_cases z : j = k
      · rw [a4 j (by omega), oa_sa, if_pos rfl, upd_eq z, z]
      · rw [a3 j (by omega) j2, oa_sa, if_pos rfl, upd_ne (by omega)]
    · intro j j1
      rw [a4 j (by omega), oa_sa, if_pos rfl, upd_ne (by omega)]
theorem m_inn113 (hF : 80 + 25 ≤ h.length) {L : Nat} (hL : L ≤ 1100) : ∀ n k m M, k + n = L → n < m → oi M 13 = Int32.ofNat L → ∃ M', gi (fun zk zs => f_X12_inn_113 N zk zs.1 zs.2.1 zs.2.2) m (80, Int32.ofNat k, pt sX12 80 M h) = gi (fun zk zs => f_X12_inn_161 N zk zs.1 zs.2.1 zs.2.2) N (80, 0, pt sX12 80 M' h) ∧ Keep [11, 12] M M' ∧ (∀ j, k ≤ j → j < L → oa M' 11 j = oa M 11 (1100 + j) ∧ oa M' 12 j = oa M 12 (1100 + j)) ∧ ∀ j, j < k → oa M' 11 j = oa M 11 j ∧ oa M' 12 j = oa M 12 j := by
  intro n
  induction n with
  | zero =>
    intro k m M hk hm h13
    have : k = L := by omega
    subst this
    refine ⟨M, ?_, Keep.rf, fun j a b => by omega, fun _ _ => ⟨rfl, rfl⟩⟩
    obtain ⟨m, rfl⟩ : ∃ k, m = k + 1 := ⟨m - 1, by omega⟩
    rw [gi_1]
    generalize hz : gi _ m = zk
    dsimp only
    unfold f_X12_inn_113
    have c : (Int32.ofNat k ≤ Int32.ofNat k) = True := by
      rw [n_le (by omega) (by omega)]
      exact eq_true (Nat.le_refl _)
    simp (disch := first | (with_reducible assumption) | (simp only [oi_si, oi_sl, oi_sa, oi_sm, oi_sv, oi_sq, ol_si, ol_sl, ol_sa, ol_sm, ol_sv, ol_sq, oa_si, oa_sl, oa_sa, oa_sm, oa_sv, oa_sq, om_si, om_sl, om_sa, om_sm, om_sv, om_sq, ov_si, ov_sl, ov_sa, ov_sm, ov_sv, ov_sq, oq_si, oq_sl, oq_sa, oq_sm, oq_sv, oq_sq, Nat.reduceEqDiff, ↓reduceIte]; done) | omega | (exact ixn (by omega) (by omega)) | (exact ixl (by decide) (by decide)) | (simp only [pt_len, pl, z0, z1, z2, z3, z4, z5, z6, z7, z8, z9, z10, z11, z12]; omega)) only [↓gb_m, ↓gc_m, ↓gl_s, ↓gg_m, gb_s, gc_s, gg_t, gqm_0, gqm_1, pt_pt, sa_sa, sm_sm, si_si, qk12, qg12_0, qs12_0, qg12_1, qg12_2, qs12_2, qg12_3, qs12_3, qg12_4, qg12_5, qg12_6, qg12_7, qs12_7, qg12_8, qs12_8, qg12_9, qg12_10, qg12_11, qg12_12, qg12_13, qs12_13, qg12_14, qg12_15, qg12_16, qg12_17, qg12_18, qs12_18, qg12_19, qg12_20, qg12_21, qg12_22, qg12_23, qs12_23, qg12_24, qs12_24, qg12_25, qs12_25, qg12_26, qs12_26, qg12_27, qs12_27, qg12_28, qs12_28, qg12_29, qg12_30, qs12_30, qg12_31, qg12_32, qg12_33, qg12_34, qg12_35, qg12_36, qs12_36, qg12_37, qs12_37, qg12_38, qs12_38, qg12_39, qs12_39, qg12_40, qs12_40, qg12_41, qg12_42, qs12_42, qg12_43, qs12_43, qg12_44, qs12_44, qg12_45, qs12_45, qg12_46, qs12_46, qg12_47, qa12_1, qe12_1, ql12_1, qa12_4, qe12_4, ql12_4, qa12_5, qe12_5, ql12_5, qa12_6, qe12_6, ql12_6, qa12_9, qe12_9, ql12_9, qa12_10, qe12_10, ql12_10, qa12_11, qe12_11, ql12_11, qa12_12, qe12_12, ql12_12, qa12_14, qe12_14, ql12_14, qa12_15, qe12_15, ql12_15, qa12_16, qe12_16, ql12_16, qa12_17, qe12_17, ql12_17, qa12_19, qe12_19, ql12_19, qa12_20, qe12_20, ql12_20, qa12_21, qe12_21, ql12_21, qa12_22, qe12_22, ql12_22, qa12_29, qe12_29, ql12_29, qa12_31, qe12_31, ql12_31, qa12_32, qe12_32, ql12_32, qa12_33, qe12_33, ql12_33, qa12_34, qe12_34, ql12_34, qa12_35, qe12_35, ql12_35, qa12_41, qe12_41, ql12_41, qa12_47, qe12_47, ql12_47, oi_si, oi_sl, oi_sa, oi_sm, oi_sv, oi_sq, ol_si, ol_sl, ol_sa, ol_sm, ol_sv, ol_sq, oa_si, oa_sl, oa_sa, oa_sm, oa_sv, oa_sq, om_si, om_sl, om_sa, om_sm, om_sv, om_sq, ov_si, ov_sl, ov_sa, ov_sm, ov_sv, ov_sq, oq_si, oq_sl, oq_sa, oq_sm, oq_sv, oq_sq, Nat.reduceEqDiff, ↓reduceIte, n_add, n_addl, n_ladd, n_add1, n_mul, n_lmul, n_mull, n_sub, n_subl, n_subm, n_lt, n_le, n_eq, n_ltl, n_llt, n_lel, n_lle, n_eql, n_leq, n_m1, n_m1l, n_lt0, n_ge0, i_okc, i_okl, if_true, if_false, not_true, not_false, Nat.not_lt_zero, Nat.zero_le, h13, c]
  | succ n ih =>
    intro k m M hk hm h13
    obtain ⟨M', a1, a2, a3, a4⟩ := ih (k + 1) (m - 1) (sa (sa M 11 (upd (oa M 11) k (oa M 11 (1100 + k)))) 12 (upd (oa M 12) k (oa M 12 (1100 + k)))) (by omega) (by omega) h13
    refine ⟨M', ?_, ((k_sa (by decide)).tr (k_sa (by decide))).tr a2, ?_, ?_⟩
    · skip
      obtain ⟨m, rfl⟩ : ∃ k, m = k + 1 := ⟨m - 1, by omega⟩
      rw [gi_1]
      generalize hz : gi _ m = zk
      dsimp only
      rw [show m + 1 - 1 = m by omega, hz] at a1
      unfold f_X12_inn_113
      have c : (Int32.ofNat L ≤ Int32.ofNat k) = False := by
        rw [n_le (by omega) (by omega)]
        exact eq_false (by omega)
      simp (disch := first | (with_reducible assumption) | (simp only [oi_si, oi_sl, oi_sa, oi_sm, oi_sv, oi_sq, ol_si, ol_sl, ol_sa, ol_sm, ol_sv, ol_sq, oa_si, oa_sl, oa_sa, oa_sm, oa_sv, oa_sq, om_si, om_sl, om_sa, om_sm, om_sv, om_sq, ov_si, ov_sl, ov_sa, ov_sm, ov_sv, ov_sq, oq_si, oq_sl, oq_sa, oq_sm, oq_sv, oq_sq, Nat.reduceEqDiff, ↓reduceIte]; done) | omega | (exact ixn (by omega) (by omega)) | (exact ixl (by decide) (by decide)) | (simp only [pt_len, pl, z0, z1, z2, z3, z4, z5, z6, z7, z8, z9, z10, z11, z12]; omega)) only [↓gb_m, ↓gc_m, ↓gl_s, ↓gg_m, gb_s, gc_s, gg_t, gqm_0, gqm_1, pt_pt, sa_sa, sm_sm, si_si, qk12, qg12_0, qs12_0, qg12_1, qg12_2, qs12_2, qg12_3, qs12_3, qg12_4, qg12_5, qg12_6, qg12_7, qs12_7, qg12_8, qs12_8, qg12_9, qg12_10, qg12_11, qg12_12, qg12_13, qs12_13, qg12_14, qg12_15, qg12_16, qg12_17, qg12_18, qs12_18, qg12_19, qg12_20, qg12_21, qg12_22, qg12_23, qs12_23, qg12_24, qs12_24, qg12_25, qs12_25, qg12_26, qs12_26, qg12_27, qs12_27, qg12_28, qs12_28, qg12_29, qg12_30, qs12_30, qg12_31, qg12_32, qg12_33, qg12_34, qg12_35, qg12_36, qs12_36, qg12_37, qs12_37, qg12_38, qs12_38, qg12_39, qs12_39, qg12_40, qs12_40, qg12_41, qg12_42, qs12_42, qg12_43, qs12_43, qg12_44, qs12_44, qg12_45, qs12_45, qg12_46, qs12_46, qg12_47, qa12_1, qe12_1, ql12_1, qa12_4, qe12_4, ql12_4, qa12_5, qe12_5, ql12_5, qa12_6, qe12_6, ql12_6, qa12_9, qe12_9, ql12_9, qa12_10, qe12_10, ql12_10, qa12_11, qe12_11, ql12_11, qa12_12, qe12_12, ql12_12, qa12_14, qe12_14, ql12_14, qa12_15, qe12_15, ql12_15, qa12_16, qe12_16, ql12_16, qa12_17, qe12_17, ql12_17, qa12_19, qe12_19, ql12_19, qa12_20, qe12_20, ql12_20, qa12_21, qe12_21, ql12_21, qa12_22, qe12_22, ql12_22, qa12_29, qe12_29, ql12_29, qa12_31, qe12_31, ql12_31, qa12_32, qe12_32, ql12_32, qa12_33, qe12_33, ql12_33, qa12_34, qe12_34, ql12_34, qa12_35, qe12_35, ql12_35, qa12_41, qe12_41, ql12_41, qa12_47, qe12_47, ql12_47, oi_si, oi_sl, oi_sa, oi_sm, oi_sv, oi_sq, ol_si, ol_sl, ol_sa, ol_sm, ol_sv, ol_sq, oa_si, oa_sl, oa_sa, oa_sm, oa_sv, oa_sq, om_si, om_sl, om_sa, om_sm, om_sv, om_sq, ov_si, ov_sl, ov_sa, ov_sm, ov_sv, ov_sq, oq_si, oq_sl, oq_sa, oq_sm, oq_sv, oq_sq, Nat.reduceEqDiff, ↓reduceIte, n_add, n_addl, n_ladd, n_add1, n_mul, n_lmul, n_mull, n_sub, n_subl, n_subm, n_lt, n_le, n_eq, n_ltl, n_llt, n_lel, n_lle, n_eql, n_leq, n_m1, n_m1l, n_lt0, n_ge0, i_okc, i_okl, if_true, if_false, not_true, not_false, Nat.not_lt_zero, Nat.zero_le, h13, c, gnar_0, a1]
    · intro j j1 j2
      by_cases z : j = k
      · have := a4 j (by omega)
        simp only [oi_si, oi_sl, oi_sa, oi_sm, oi_sv, oi_sq, ol_si, ol_sl, ol_sa, ol_sm, ol_sv, ol_sq, oa_si, oa_sl, oa_sa, oa_sm, oa_sv, oa_sq, om_si, om_sl, om_sa, om_sm, om_sv, om_sq, ov_si, ov_sl, ov_sa, ov_sm, ov_sv, ov_sq, oq_si, oq_sl, oq_sa, oq_sm, oq_sv, oq_sq, Nat.reduceEqDiff, ↓reduceIte] at this
        rw [this.1, this.2, upd_eq z, upd_eq z, z]
        exact ⟨rfl, rfl⟩
      · have := a3 j (by omega) j2
        simp only [oi_si, oi_sl, oi_sa, oi_sm, oi_sv, oi_sq, ol_si, ol_sl, ol_sa, ol_sm, ol_sv, ol_sq, oa_si, oa_sl, oa_sa, oa_sm, oa_sv, oa_sq, om_si, om_sl, om_sa, om_sm, om_sv, om_sq, ov_si, ov_sl, ov_sa, ov_sm, ov_sv, ov_sq, oq_si, oq_sl, oq_sa, oq_sm, oq_sv, oq_sq, Nat.reduceEqDiff, ↓reduceIte] at this
        rw [this.1, this.2, upd_ne (by omega), upd_ne (by omega)]
        exact ⟨rfl, rfl⟩
    · intro j j1
      have := a4 j (by omega)
      simp only [oi_si, oi_sl, oi_sa, oi_sm, oi_sv, oi_sq, ol_si, ol_sl, ol_sa, ol_sm, ol_sv, ol_sq, oa_si, oa_sl, oa_sa, oa_sm, oa_sv, oa_sq, om_si, om_sl, om_sa, om_sm, om_sv, om_sq, ov_si, ov_sl, ov_sa, ov_sm, ov_sv, ov_sq, oq_si, oq_sl, oq_sa, oq_sm, oq_sv, oq_sq, Nat.reduceEqDiff, ↓reduceIte] at this
      rw [this.1, this.2, upd_ne (by omega), upd_ne (by omega)]
      exact ⟨rfl, rfl⟩
theorem m_inn201 (hF : 80 + 25 ≤ h.length) : ∀ n k m M, k + n = 4 → n < m → ∃ M', gi (fun zk zs => f_X12_inn_201 N zk zs.1 zs.2.1 zs.2.2) m (80, Int32.ofNat k, pt sX12 80 M h) = some (0, pt sX12 80 M' h) ∧ Keep [47, 18] M M' ∧ oi M' 18 = 1 ∧ (∀ j, k ≤ j → j < 4 → oa M' 47 j = 0) ∧ ∀ j, j < k → oa M' 47 j = oa M 47 j := by
  intro n
  induction n with
  | zero =>
    intro k m M hk hm
    have : k = 4 := by omega
    subst this
    refine ⟨si M 18 1, ?_, k_si (by decide), by rw [oi_si, if_pos rfl], fun j a b => by omega, fun _ _ => rfl⟩
    obtain ⟨m, rfl⟩ : ∃ k, m = k + 1 := ⟨m - 1, by omega⟩
    rw [gi_1]
    generalize hz : gi _ m = zk
    dsimp only
    unfold f_X12_inn_201
    simp (disch := first | (with_reducible assumption) | (simp only [oi_si, oi_sl, oi_sa, oi_sm, oi_sv, oi_sq, ol_si, ol_sl, ol_sa, ol_sm, ol_sv, ol_sq, oa_si, oa_sl, oa_sa, oa_sm, oa_sv, oa_sq, om_si, om_sl, om_sa, om_sm, om_sv, om_sq, ov_si, ov_sl, ov_sa, ov_sm, ov_sv, ov_sq, oq_si, oq_sl, oq_sa, oq_sm, oq_sv, oq_sq, Nat.reduceEqDiff, ↓reduceIte]; done) | omega | (exact ixn (by omega) (by omega)) | (exact ixl (by decide) (by decide)) | (simp only [pt_len, pl, z0, z1, z2, z3, z4, z5, z6, z7, z8, z9, z10, z11, z12]; omega)) only [↓gb_m, ↓gc_m, ↓gl_s, ↓gg_m, gb_s, gc_s, gg_t, gqm_0, gqm_1, pt_pt, sa_sa, sm_sm, si_si, qk12, qg12_0, qs12_0, qg12_1, qg12_2, qs12_2, qg12_3, qs12_3, qg12_4, qg12_5, qg12_6, qg12_7, qs12_7, qg12_8, qs12_8, qg12_9, qg12_10, qg12_11, qg12_12, qg12_13, qs12_13, qg12_14, qg12_15, qg12_16, qg12_17, qg12_18, qs12_18, qg12_19, qg12_20, qg12_21, qg12_22, qg12_23, qs12_23, qg12_24, qs12_24, qg12_25, qs12_25, qg12_26, qs12_26, qg12_27, qs12_27, qg12_28, qs12_28, qg12_29, qg12_30, qs12_30, qg12_31, qg12_32, qg12_33, qg12_34, qg12_35, qg12_36, qs12_36, qg12_37, qs12_37, qg12_38, qs12_38, qg12_39, qs12_39, qg12_40, qs12_40, qg12_41, qg12_42, qs12_42, qg12_43, qs12_43, qg12_44, qs12_44, qg12_45, qs12_45, qg12_46, qs12_46, qg12_47, qa12_1, qe12_1, ql12_1, qa12_4, qe12_4, ql12_4, qa12_5, qe12_5, ql12_5, qa12_6, qe12_6, ql12_6, qa12_9, qe12_9, ql12_9, qa12_10, qe12_10, ql12_10, qa12_11, qe12_11, ql12_11, qa12_12, qe12_12, ql12_12, qa12_14, qe12_14, ql12_14, qa12_15, qe12_15, ql12_15, qa12_16, qe12_16, ql12_16, qa12_17, qe12_17, ql12_17, qa12_19, qe12_19, ql12_19, qa12_20, qe12_20, ql12_20, qa12_21, qe12_21, ql12_21, qa12_22, qe12_22, ql12_22, qa12_29, qe12_29, ql12_29, qa12_31, qe12_31, ql12_31, qa12_32, qe12_32, ql12_32, qa12_33, qe12_33, ql12_33, qa12_34, qe12_34, ql12_34, qa12_35, qe12_35, ql12_35, qa12_41, qe12_41, ql12_41, qa12_47, qe12_47, ql12_47, oi_si, oi_sl, oi_sa, oi_sm, oi_sv, oi_sq, ol_si, ol_sl, ol_sa, ol_sm, ol_sv, ol_sq, oa_si, oa_sl, oa_sa, oa_sm, oa_sv, oa_sq, om_si, om_sl, om_sa, om_sm, om_sv, om_sq, ov_si, ov_sl, ov_sa, ov_sm, ov_sv, ov_sq, oq_si, oq_sl, oq_sa, oq_sm, oq_sv, oq_sq, Nat.reduceEqDiff, ↓reduceIte, n_add, n_addl, n_ladd, n_add1, n_mul, n_lmul, n_mull, n_sub, n_subl, n_subm, n_lt, n_le, n_eq, n_ltl, n_llt, n_lel, n_lle, n_eql, n_leq, n_m1, n_m1l, n_lt0, n_ge0, i_okc, i_okl, if_true, if_false, not_true, not_false, Nat.not_lt_zero, Nat.zero_le, Nat.le_refl]
  | succ n ih =>
    intro k m M hk hm
    obtain ⟨M', a1, a2, a3, a4, a5⟩ := ih (k + 1) (m - 1) (sa M 47 (upd (oa M 47) k 0)) (by omega) (by omega)
    refine ⟨M', ?_, (k_sa (by decide)).tr a2, a3, ?_, ?_⟩
    · skip
      obtain ⟨m, rfl⟩ : ∃ k, m = k + 1 := ⟨m - 1, by omega⟩
      rw [gi_1]
      generalize hz : gi _ m = zk
      dsimp only
      rw [show m + 1 - 1 = m by omega, hz] at a1
      unfold f_X12_inn_201
      have c : ((4 : Int32) ≤ Int32.ofNat k) = False := nleF (a := 4) (by omega) (by omega) (by omega)
      simp (disch := first | (with_reducible assumption) | (simp only [oi_si, oi_sl, oi_sa, oi_sm, oi_sv, oi_sq, ol_si, ol_sl, ol_sa, ol_sm, ol_sv, ol_sq, oa_si, oa_sl, oa_sa, oa_sm, oa_sv, oa_sq, om_si, om_sl, om_sa, om_sm, om_sv, om_sq, ov_si, ov_sl, ov_sa, ov_sm, ov_sv, ov_sq, oq_si, oq_sl, oq_sa, oq_sm, oq_sv, oq_sq, Nat.reduceEqDiff, ↓reduceIte]; done) | omega | (exact ixn (by omega) (by omega)) | (exact ixl (by decide) (by decide)) | (simp only [pt_len, pl, z0, z1, z2, z3, z4, z5, z6, z7, z8, z9, z10, z11, z12]; omega)) only [↓gb_m, ↓gc_m, ↓gl_s, ↓gg_m, gb_s, gc_s, gg_t, gqm_0, gqm_1, pt_pt, sa_sa, sm_sm, si_si, qk12, qg12_0, qs12_0, qg12_1, qg12_2, qs12_2, qg12_3, qs12_3, qg12_4, qg12_5, qg12_6, qg12_7, qs12_7, qg12_8, qs12_8, qg12_9, qg12_10, qg12_11, qg12_12, qg12_13, qs12_13, qg12_14, qg12_15, qg12_16, qg12_17, qg12_18, qs12_18, qg12_19, qg12_20, qg12_21, qg12_22, qg12_23, qs12_23, qg12_24, qs12_24, qg12_25, qs12_25, qg12_26, qs12_26, qg12_27, qs12_27, qg12_28, qs12_28, qg12_29, qg12_30, qs12_30, qg12_31, qg12_32, qg12_33, qg12_34, qg12_35, qg12_36, qs12_36, qg12_37, qs12_37, qg12_38, qs12_38, qg12_39, qs12_39, qg12_40, qs12_40, qg12_41, qg12_42, qs12_42, qg12_43, qs12_43, qg12_44, qs12_44, qg12_45, qs12_45, qg12_46, qs12_46, qg12_47, qa12_1, qe12_1, ql12_1, qa12_4, qe12_4, ql12_4, qa12_5, qe12_5, ql12_5, qa12_6, qe12_6, ql12_6, qa12_9, qe12_9, ql12_9, qa12_10, qe12_10, ql12_10, qa12_11, qe12_11, ql12_11, qa12_12, qe12_12, ql12_12, qa12_14, qe12_14, ql12_14, qa12_15, qe12_15, ql12_15, qa12_16, qe12_16, ql12_16, qa12_17, qe12_17, ql12_17, qa12_19, qe12_19, ql12_19, qa12_20, qe12_20, ql12_20, qa12_21, qe12_21, ql12_21, qa12_22, qe12_22, ql12_22, qa12_29, qe12_29, ql12_29, qa12_31, qe12_31, ql12_31, qa12_32, qe12_32, ql12_32, qa12_33, qe12_33, ql12_33, qa12_34, qe12_34, ql12_34, qa12_35, qe12_35, ql12_35, qa12_41, qe12_41, ql12_41, qa12_47, qe12_47, ql12_47, oi_si, oi_sl, oi_sa, oi_sm, oi_sv, oi_sq, ol_si, ol_sl, ol_sa, ol_sm, ol_sv, ol_sq, oa_si, oa_sl, oa_sa, oa_sm, oa_sv, oa_sq, om_si, om_sl, om_sa, om_sm, om_sv, om_sq, ov_si, ov_sl, ov_sa, ov_sm, ov_sv, ov_sq, oq_si, oq_sl, oq_sa, oq_sm, oq_sv, oq_sq, Nat.reduceEqDiff, ↓reduceIte, n_add, n_addl, n_ladd, n_add1, n_mul, n_lmul, n_mull, n_sub, n_subl, n_subm, n_lt, n_le, n_eq, n_ltl, n_llt, n_lel, n_lle, n_eql, n_leq, n_m1, n_m1l, n_lt0, n_ge0, i_okc, i_okl, if_true, if_false, not_true, not_false, Nat.not_lt_zero, Nat.zero_le, c, gnar30, a1]
    · intro j j1 j2
      by_cases z : j = k
      · rw [a5 j (by omega), oa_sa, if_pos rfl, upd_eq z]
      · exact a4 j (by omega) j2
    · intro j j1
      rw [a5 j (by omega), oa_sa, if_pos rfl, upd_ne (by omega)]
theorem m_inn161 (hF : 80 + 25 ≤ h.length) (hN : 2000 ≤ N) {I : IA} : ∀ n k m M, k + n = 520 → n < m → RepIN I (oa M 10) → ∃ M', gi (fun zk zs => f_X12_inn_161 N zk zs.1 zs.2.1 zs.2.2) m (80, Int32.ofNat k, pt sX12 80 M h) = some (0, pt sX12 80 M' h) ∧ Keep [17, 18, 47] M M' ∧ oi M' 18 = 1 ∧ (∀ j, j < 4 → oa M' 47 j = 0) ∧ (∀ j, k ≤ j → j < 520 → j ≠ 0 → oa M' 17 j = 0) ∧ (∀ j, j < k → j ≠ 0 → oa M' 17 j = oa M 17 j) ∧ oa M' 17 0 = eO (if 0 < iK I then some 0 else none) := by
  intro n
  induction n with
  | zero =>
    intro k m M hk hm hI
    have : k = 520 := by omega
    subst this
    have kk := hI.1.2.2.1
    have rl := m_rules (N := N) hF hI
    obtain ⟨M', a1, a2, a3, a4, a5⟩ := m_inn201 (N := N) (h := h) hF 4 0 N (sa M 17 (upd (oa M 17) 0 (eO (if 0 < iK I then some 0 else none)))) (by omega) (by omega)
    have a1 : gi (fun zk zs => f_X12_inn_201 N zk zs.1 zs.2.1 zs.2.2) N (80, 0, pt sX12 80 (sa M 17 (upd (oa M 17) 0 (eO (if 0 < iK I then some 0 else none)))) h) = _ := a1
    have k2 : Keep [47, 18] (sa M 17 (upd (oa M 17) 0 (eO (if 0 < iK I then some 0 else none)))) M' := a2
    have a17 : oa M' 17 = upd (oa M 17) 0 (eO (if 0 < iK I then some 0 else none)) := by rw [k2.a (by decide), oa_sa, if_pos rfl]
    refine ⟨M', ?_, (k_sa (by decide)).tr (a2.up (by decide)), a3, fun j hj => a4 j (by omega) hj, fun j j1 j2 _ => by omega, fun j _ j2 => by rw [a17, upd_ne j2], by rw [a17, upd_eq rfl]⟩
    obtain ⟨m, rfl⟩ : ∃ k, m = k + 1 := ⟨m - 1, by omega⟩
    rw [gi_1]
    generalize hz : gi _ m = zk
    dsimp only
    unfold f_X12_inn_161 f_X12_inn_198
    by_cases c : 0 < iK I
    · rw [if_pos c] at a1
      have a1 : gi (fun zk zs => f_X12_inn_201 N zk zs.1 zs.2.1 zs.2.2) N (80, 0, pt sX12 80 (sa M 17 (upd (oa M 17) 0 0)) h) = _ := a1
      have c2 : (Int32.ofNat (iK I) ≤ 0) = False := nleF (b := 0) (by omega) (by omega) (by omega)
      simp (disch := first | (with_reducible assumption) | (simp only [oi_si, oi_sl, oi_sa, oi_sm, oi_sv, oi_sq, ol_si, ol_sl, ol_sa, ol_sm, ol_sv, ol_sq, oa_si, oa_sl, oa_sa, oa_sm, oa_sv, oa_sq, om_si, om_sl, om_sa, om_sm, om_sv, om_sq, ov_si, ov_sl, ov_sa, ov_sm, ov_sv, ov_sq, oq_si, oq_sl, oq_sa, oq_sm, oq_sv, oq_sq, Nat.reduceEqDiff, ↓reduceIte]; done) | omega | (exact ixn (by omega) (by omega)) | (exact ixl (by decide) (by decide)) | (simp only [pt_len, pl, z0, z1, z2, z3, z4, z5, z6, z7, z8, z9, z10, z11, z12]; omega)) only [↓gb_m, ↓gc_m, ↓gl_s, ↓gg_m, gb_s, gc_s, gg_t, gqm_0, gqm_1, pt_pt, sa_sa, sm_sm, si_si, qk12, qg12_0, qs12_0, qg12_1, qg12_2, qs12_2, qg12_3, qs12_3, qg12_4, qg12_5, qg12_6, qg12_7, qs12_7, qg12_8, qs12_8, qg12_9, qg12_10, qg12_11, qg12_12, qg12_13, qs12_13, qg12_14, qg12_15, qg12_16, qg12_17, qg12_18, qs12_18, qg12_19, qg12_20, qg12_21, qg12_22, qg12_23, qs12_23, qg12_24, qs12_24, qg12_25, qs12_25, qg12_26, qs12_26, qg12_27, qs12_27, qg12_28, qs12_28, qg12_29, qg12_30, qs12_30, qg12_31, qg12_32, qg12_33, qg12_34, qg12_35, qg12_36, qs12_36, qg12_37, qs12_37, qg12_38, qs12_38, qg12_39, qs12_39, qg12_40, qs12_40, qg12_41, qg12_42, qs12_42, qg12_43, qs12_43, qg12_44, qs12_44, qg12_45, qs12_45, qg12_46, qs12_46, qg12_47, qa12_1, qe12_1, ql12_1, qa12_4, qe12_4, ql12_4, qa12_5, qe12_5, ql12_5, qa12_6, qe12_6, ql12_6, qa12_9, qe12_9, ql12_9, qa12_10, qe12_10, ql12_10, qa12_11, qe12_11, ql12_11, qa12_12, qe12_12, ql12_12, qa12_14, qe12_14, ql12_14, qa12_15, qe12_15, ql12_15, qa12_16, qe12_16, ql12_16, qa12_17, qe12_17, ql12_17, qa12_19, qe12_19, ql12_19, qa12_20, qe12_20, ql12_20, qa12_21, qe12_21, ql12_21, qa12_22, qe12_22, ql12_22, qa12_29, qe12_29, ql12_29, qa12_31, qe12_31, ql12_31, qa12_32, qe12_32, ql12_32, qa12_33, qe12_33, ql12_33, qa12_34, qe12_34, ql12_34, qa12_35, qe12_35, ql12_35, qa12_41, qe12_41, ql12_41, qa12_47, qe12_47, ql12_47, oi_si, oi_sl, oi_sa, oi_sm, oi_sv, oi_sq, ol_si, ol_sl, ol_sa, ol_sm, ol_sv, ol_sq, oa_si, oa_sl, oa_sa, oa_sm, oa_sv, oa_sq, om_si, om_sl, om_sa, om_sm, om_sv, om_sq, ov_si, ov_sl, ov_sa, ov_sm, ov_sv, ov_sq, oq_si, oq_sl, oq_sa, oq_sm, oq_sv, oq_sq, Nat.reduceEqDiff, ↓reduceIte, n_add, n_addl, n_ladd, n_add1, n_mul, n_lmul, n_mull, n_sub, n_subl, n_subm, n_lt, n_le, n_eq, n_ltl, n_llt, n_lel, n_lle, n_eql, n_leq, n_m1, n_m1l, n_lt0, n_ge0, i_okc, i_okl, if_true, if_false, not_true, not_false, Nat.not_lt_zero, Nat.zero_le, Nat.le_refl, rl, c2, gnar_0, a1]
    · rw [if_neg c] at a1
      have a1 : gi (fun zk zs => f_X12_inn_201 N zk zs.1 zs.2.1 zs.2.2) N (80, 0, pt sX12 80 (sa M 17 (upd (oa M 17) 0 (-1))) h) = _ := a1
      have c2 : (Int32.ofNat (iK I) ≤ 0) = True := nleT (b := 0) (by omega) (by omega) (by omega)
      simp (disch := first | (with_reducible assumption) | (simp only [oi_si, oi_sl, oi_sa, oi_sm, oi_sv, oi_sq, ol_si, ol_sl, ol_sa, ol_sm, ol_sv, ol_sq, oa_si, oa_sl, oa_sa, oa_sm, oa_sv, oa_sq, om_si, om_sl, om_sa, om_sm, om_sv, om_sq, ov_si, ov_sl, ov_sa, ov_sm, ov_sv, ov_sq, oq_si, oq_sl, oq_sa, oq_sm, oq_sv, oq_sq, Nat.reduceEqDiff, ↓reduceIte]; done) | omega | (exact ixn (by omega) (by omega)) | (exact ixl (by decide) (by decide)) | (simp only [pt_len, pl, z0, z1, z2, z3, z4, z5, z6, z7, z8, z9, z10, z11, z12]; omega)) only [↓gb_m, ↓gc_m, ↓gl_s, ↓gg_m, gb_s, gc_s, gg_t, gqm_0, gqm_1, pt_pt, sa_sa, sm_sm, si_si, qk12, qg12_0, qs12_0, qg12_1, qg12_2, qs12_2, qg12_3, qs12_3, qg12_4, qg12_5, qg12_6, qg12_7, qs12_7, qg12_8, qs12_8, qg12_9, qg12_10, qg12_11, qg12_12, qg12_13, qs12_13, qg12_14, qg12_15, qg12_16, qg12_17, qg12_18, qs12_18, qg12_19, qg12_20, qg12_21, qg12_22, qg12_23, qs12_23, qg12_24, qs12_24, qg12_25, qs12_25, qg12_26, qs12_26, qg12_27, qs12_27, qg12_28, qs12_28, qg12_29, qg12_30, qs12_30, qg12_31, qg12_32, qg12_33, qg12_34, qg12_35, qg12_36, qs12_36, qg12_37, qs12_37, qg12_38, qs12_38, qg12_39, qs12_39, qg12_40, qs12_40, qg12_41, qg12_42, qs12_42, qg12_43, qs12_43, qg12_44, qs12_44, qg12_45, qs12_45, qg12_46, qs12_46, qg12_47, qa12_1, qe12_1, ql12_1, qa12_4, qe12_4, ql12_4, qa12_5, qe12_5, ql12_5, qa12_6, qe12_6, ql12_6, qa12_9, qe12_9, ql12_9, qa12_10, qe12_10, ql12_10, qa12_11, qe12_11, ql12_11, qa12_12, qe12_12, ql12_12, qa12_14, qe12_14, ql12_14, qa12_15, qe12_15, ql12_15, qa12_16, qe12_16, ql12_16, qa12_17, qe12_17, ql12_17, qa12_19, qe12_19, ql12_19, qa12_20, qe12_20, ql12_20, qa12_21, qe12_21, ql12_21, qa12_22, qe12_22, ql12_22, qa12_29, qe12_29, ql12_29, qa12_31, qe12_31, ql12_31, qa12_32, qe12_32, ql12_32, qa12_33, qe12_33, ql12_33, qa12_34, qe12_34, ql12_34, qa12_35, qe12_35, ql12_35, qa12_41, qe12_41, ql12_41, qa12_47, qe12_47, ql12_47, oi_si, oi_sl, oi_sa, oi_sm, oi_sv, oi_sq, ol_si, ol_sl, ol_sa, ol_sm, ol_sv, ol_sq, oa_si, oa_sl, oa_sa, oa_sm, oa_sv, oa_sq, om_si, om_sl, om_sa, om_sm, om_sv, om_sq, ov_si, ov_sl, ov_sa, ov_sm, ov_sv, ov_sq, oq_si, oq_sl, oq_sa, oq_sm, oq_sv, oq_sq, Nat.reduceEqDiff, ↓reduceIte, n_add, n_addl, n_ladd, n_add1, n_mul, n_lmul, n_mull, n_sub, n_subl, n_subm, n_lt, n_le, n_eq, n_ltl, n_llt, n_lel, n_lle, n_eql, n_leq, n_m1, n_m1l, n_lt0, n_ge0, i_okc, i_okl, if_true, if_false, not_true, not_false, Nat.not_lt_zero, Nat.zero_le, Nat.le_refl, rl, c2, gnar_0, a1]
  | succ n ih =>
    intro k m M hk hm hI
    obtain ⟨M', a1, a2, a3, a4, a5, a6, a7⟩ := ih (k + 1) (m - 1) (sa M 17 (upd (oa M 17) k 0)) (by omega) (by omega) hI
    refine ⟨M', ?_, (k_sa (by decide)).tr a2, a3, a4, ?_, ?_, a7⟩
    · skip
      obtain ⟨m, rfl⟩ : ∃ k, m = k + 1 := ⟨m - 1, by omega⟩
      rw [gi_1]
      generalize hz : gi _ m = zk
      dsimp only
      rw [show m + 1 - 1 = m by omega, hz] at a1
      unfold f_X12_inn_161
      have c : ((520 : Int32) ≤ Int32.ofNat k) = False := nleF (a := 520) (by omega) (by omega) (by omega)
      simp (disch := first | (with_reducible assumption) | (simp only [oi_si, oi_sl, oi_sa, oi_sm, oi_sv, oi_sq, ol_si, ol_sl, ol_sa, ol_sm, ol_sv, ol_sq, oa_si, oa_sl, oa_sa, oa_sm, oa_sv, oa_sq, om_si, om_sl, om_sa, om_sm, om_sv, om_sq, ov_si, ov_sl, ov_sa, ov_sm, ov_sv, ov_sq, oq_si, oq_sl, oq_sa, oq_sm, oq_sv, oq_sq, Nat.reduceEqDiff, ↓reduceIte]; done) | omega | (exact ixn (by omega) (by omega)) | (exact ixl (by decide) (by decide)) | (simp only [pt_len, pl, z0, z1, z2, z3, z4, z5, z6, z7, z8, z9, z10, z11, z12]; omega)) only [↓gb_m, ↓gc_m, ↓gl_s, ↓gg_m, gb_s, gc_s, gg_t, gqm_0, gqm_1, pt_pt, sa_sa, sm_sm, si_si, qk12, qg12_0, qs12_0, qg12_1, qg12_2, qs12_2, qg12_3, qs12_3, qg12_4, qg12_5, qg12_6, qg12_7, qs12_7, qg12_8, qs12_8, qg12_9, qg12_10, qg12_11, qg12_12, qg12_13, qs12_13, qg12_14, qg12_15, qg12_16, qg12_17, qg12_18, qs12_18, qg12_19, qg12_20, qg12_21, qg12_22, qg12_23, qs12_23, qg12_24, qs12_24, qg12_25, qs12_25, qg12_26, qs12_26, qg12_27, qs12_27, qg12_28, qs12_28, qg12_29, qg12_30, qs12_30, qg12_31, qg12_32, qg12_33, qg12_34, qg12_35, qg12_36, qs12_36, qg12_37, qs12_37, qg12_38, qs12_38, qg12_39, qs12_39, qg12_40, qs12_40, qg12_41, qg12_42, qs12_42, qg12_43, qs12_43, qg12_44, qs12_44, qg12_45, qs12_45, qg12_46, qs12_46, qg12_47, qa12_1, qe12_1, ql12_1, qa12_4, qe12_4, ql12_4, qa12_5, qe12_5, ql12_5, qa12_6, qe12_6, ql12_6, qa12_9, qe12_9, ql12_9, qa12_10, qe12_10, ql12_10, qa12_11, qe12_11, ql12_11, qa12_12, qe12_12, ql12_12, qa12_14, qe12_14, ql12_14, qa12_15, qe12_15, ql12_15, qa12_16, qe12_16, ql12_16, qa12_17, qe12_17, ql12_17, qa12_19, qe12_19, ql12_19, qa12_20, qe12_20, ql12_20, qa12_21, qe12_21, ql12_21, qa12_22, qe12_22, ql12_22, qa12_29, qe12_29, ql12_29, qa12_31, qe12_31, ql12_31, qa12_32, qe12_32, ql12_32, qa12_33, qe12_33, ql12_33, qa12_34, qe12_34, ql12_34, qa12_35, qe12_35, ql12_35, qa12_41, qe12_41, ql12_41, qa12_47, qe12_47, ql12_47, oi_si, oi_sl, oi_sa, oi_sm, oi_sv, oi_sq, ol_si, ol_sl, ol_sa, ol_sm, ol_sv, ol_sq, oa_si, oa_sl, oa_sa, oa_sm, oa_sv, oa_sq, om_si, om_sl, om_sa, om_sm, om_sv, om_sq, ov_si, ov_sl, ov_sa, ov_sm, ov_sv, ov_sq, oq_si, oq_sl, oq_sa, oq_sm, oq_sv, oq_sq, Nat.reduceEqDiff, ↓reduceIte, n_add, n_addl, n_ladd, n_add1, n_mul, n_lmul, n_mull, n_sub, n_subl, n_subm, n_lt, n_le, n_eq, n_ltl, n_llt, n_lel, n_lle, n_eql, n_leq, n_m1, n_m1l, n_lt0, n_ge0, i_okc, i_okl, if_true, if_false, not_true, not_false, Nat.not_lt_zero, Nat.zero_le, c, gnar_0, a1]
    · intro j j1 j2 j3
      by_cases z : j = k
      · rw [a6 j (by omega) j3, oa_sa, if_pos rfl, upd_eq z]
      · exact a5 j (by omega) j2 j3
    · intro j j1 j3
      rw [a6 j (by omega) j3, oa_sa, if_pos rfl, upd_ne (by omega)]
theorem m_inn {A : AA} (hN : 2000 ≤ N) (hA' : AOk A) : MAns A (innS A) (f_X12_inn N 80) (ansInn A) := by
  intro M h hF hM'
  obtain ⟨a1, a2, a3, a4, a5⟩ := hA'
  have hT : TOk (aT A) := ⟨a3, a4⟩
  obtain ⟨tv, tl⟩ := toks_ok hT
  obtain ⟨q1, q2, q3, q4, q5, q6, q7⟩ := hM'
  obtain ⟨M1, b1, b2, b3, b4, b5, b6⟩ := m_cutAll (N := N) hF hN (M := si M 0 0) hT ⟨q5, q6⟩
  obtain ⟨M2, c1, c2, c3, c4⟩ := m_inn16 (N := N) (h := h) hF 60 0 N (si M1 13 0) rfl (by omega)
  have c1 : gi (fun zk zs => f_X12_inn_16 N zk zs.1 zs.2.1 zs.2.2) N (80, 0, pt sX12 80 (si M1 13 0) h) = _ := c1
  have kA : Keep [0, 2, 3, 4, 5, 6, 7, 8, 13, 10] M M2 := ((k_si (by decide)).tr (b2.up (by decide))).tr ((k_si (by decide)).tr (c2.up (by decide)))
  have kB : Keep [13, 10] M1 M2 := (k_si (by decide)).tr (c2.up (by decide))
  have hP : PM (toks (aT A)) (toks (aT A)) M2 := by
    refine ⟨?_, tv, ⟨0, rfl⟩, ?_, ?_, tl, ?_⟩
    · intro i x hx
      unfold RepTok
      rw [kB.a (by decide), kB.a (by decide), kB.m (by decide)]
      exact b3 i x hx
    · rw [kB.i (by decide), b4, Nat.sub_self]
      rfl
    · rw [kB.i (by decide), b5]
    · rw [kA.m (by decide)]
      exact q7
  have hD : DR ([], [], []) M2 := by
    refine ⟨c3 60 (by omega) (by omega), c3 61 (by omega) (by omega), c3 62 (by omega) (by omega), fun r x hx => (by cases hx), fun g x hx => (by cases hx), fun g _ hg => ⟨c3 _ (by omega) (by omega), c3 _ (by omega) (by omega)⟩, fun k hk => absurd hk (Nat.not_lt_zero _), ?_, fun j c hc => (by cases hc)⟩
    rw [c2.i (by decide), oi_si, if_pos rfl]
    rfl
  have hs0 : PSk ([], [], []) := ⟨by decide, by decide, by decide, fun x hx => (by cases hx), fun x hx => (by cases hx), fun x hx => (by cases hx)⟩
  obtain ⟨M3, d1, d2, d3⟩ := m_inn38 (N := N) (h := h) hF hN 1000 ([], [], []) (toks (aT A)) N M2 hP hD hs0 tl (by show 0 + _ ≤ _; omega) (by omega) (by omega)
  have e0 : f_X12_inn N 80 (pt sX12 80 M h) = f_X12_inn_70 N 80 (pt sX12 80 M3 h) := by
    unfold f_X12_inn
    simp (disch := first | (with_reducible assumption) | (simp only [oi_si, oi_sl, oi_sa, oi_sm, oi_sv, oi_sq, ol_si, ol_sl, ol_sa, ol_sm, ol_sv, ol_sq, oa_si, oa_sl, oa_sa, oa_sm, oa_sv, oa_sq, om_si, om_sl, om_sa, om_sm, om_sv, om_sq, ov_si, ov_sl, ov_sa, ov_sm, ov_sv, ov_sq, oq_si, oq_sl, oq_sa, oq_sm, oq_sv, oq_sq, Nat.reduceEqDiff, ↓reduceIte]; done) | omega | (exact ixn (by omega) (by omega)) | (exact ixl (by decide) (by decide)) | (simp only [pt_len, pl, z0, z1, z2, z3, z4, z5, z6, z7, z8, z9, z10, z11, z12]; omega)) only [↓gb_m, ↓gc_m, ↓gl_s, ↓gg_m, gb_s, gc_s, gg_t, gqm_0, gqm_1, pt_pt, sa_sa, sm_sm, si_si, qk12, qg12_0, qs12_0, qg12_1, qg12_2, qs12_2, qg12_3, qs12_3, qg12_4, qg12_5, qg12_6, qg12_7, qs12_7, qg12_8, qs12_8, qg12_9, qg12_10, qg12_11, qg12_12, qg12_13, qs12_13, qg12_14, qg12_15, qg12_16, qg12_17, qg12_18, qs12_18, qg12_19, qg12_20, qg12_21, qg12_22, qg12_23, qs12_23, qg12_24, qs12_24, qg12_25, qs12_25, qg12_26, qs12_26, qg12_27, qs12_27, qg12_28, qs12_28, qg12_29, qg12_30, qs12_30, qg12_31, qg12_32, qg12_33, qg12_34, qg12_35, qg12_36, qs12_36, qg12_37, qs12_37, qg12_38, qs12_38, qg12_39, qs12_39, qg12_40, qs12_40, qg12_41, qg12_42, qs12_42, qg12_43, qs12_43, qg12_44, qs12_44, qg12_45, qs12_45, qg12_46, qs12_46, qg12_47, qa12_1, qe12_1, ql12_1, qa12_4, qe12_4, ql12_4, qa12_5, qe12_5, ql12_5, qa12_6, qe12_6, ql12_6, qa12_9, qe12_9, ql12_9, qa12_10, qe12_10, ql12_10, qa12_11, qe12_11, ql12_11, qa12_12, qe12_12, ql12_12, qa12_14, qe12_14, ql12_14, qa12_15, qe12_15, ql12_15, qa12_16, qe12_16, ql12_16, qa12_17, qe12_17, ql12_17, qa12_19, qe12_19, ql12_19, qa12_20, qe12_20, ql12_20, qa12_21, qe12_21, ql12_21, qa12_22, qe12_22, ql12_22, qa12_29, qe12_29, ql12_29, qa12_31, qe12_31, ql12_31, qa12_32, qe12_32, ql12_32, qa12_33, qe12_33, ql12_33, qa12_34, qe12_34, ql12_34, qa12_35, qe12_35, ql12_35, qa12_41, qe12_41, ql12_41, qa12_47, qe12_47, ql12_47, oi_si, oi_sl, oi_sa, oi_sm, oi_sv, oi_sq, ol_si, ol_sl, ol_sa, ol_sm, ol_sv, ol_sq, oa_si, oa_sl, oa_sa, oa_sm, oa_sv, oa_sq, om_si, om_sl, om_sa, om_sm, om_sv, om_sq, ov_si, ov_sl, ov_sa, ov_sm, ov_sv, ov_sq, oq_si, oq_sl, oq_sa, oq_sm, oq_sv, oq_sq, Nat.reduceEqDiff, ↓reduceIte, n_add, n_addl, n_ladd, n_add1, n_mul, n_lmul, n_mull, n_sub, n_subl, n_subm, n_lt, n_le, n_eq, n_ltl, n_llt, n_lel, n_lle, n_eql, n_leq, n_m1, n_m1l, n_lt0, n_ge0, i_okc, i_okl, if_true, if_false, not_true, not_false, Nat.not_lt_zero, Nat.zero_le, b1, c1, d1]
  have kC : Keep [0, 2, 3, 4, 5, 6, 7, 8, 10, 11, 12, 13, 14] M M3 := (kA.up (by decide)).tr (d2.1.up (by decide))
  have k2 : oi M3 2 = 0 := by rw [d2.1.i (by decide), kB.i (by decide), b6]
  have lo10 : ∀ j, j < 60 → oa M3 10 j = oa M 10 j := by
    intro j hj
    rw [d2.2.1 j hj, c4 j (by omega), oa_si, b2.a (by decide)]
    rfl
  have lo11 : ∀ j, j < 1100 → oa M3 11 j = oa M 11 j ∧ oa M3 12 j = oa M 12 j := by
    intro j hj
    rw [(d2.2.2 j hj).1, (d2.2.2 j hj).2, kA.a (by decide), kA.a (by decide)]
    exact ⟨rfl, rfl⟩
  rw [e0]
  have hq' : innP A = pInn 1000 ([], [], []) (toks (aT A)) := rfl
  cases hq : innP A with
  | inl f =>
    rw [← hq', hq] at d3
    have d3 : PF f M3 := d3
    have n2 := d3.n0.2
    rw [d3.1] at n2
    have ea : ansInn A = Int32.ofNat f := by unfold ansInn; rw [hq]
    have eS : innS A = (aI A, [], aS A, aM A) := by unfold innS; rw [hq]
    rw [ea, eS]
    refine ⟨M3, ?_, ?_⟩
    · unfold f_X12_inn_70
      simp (disch := first | (with_reducible assumption) | (simp only [oi_si, oi_sl, oi_sa, oi_sm, oi_sv, oi_sq, ol_si, ol_sl, ol_sa, ol_sm, ol_sv, ol_sq, oa_si, oa_sl, oa_sa, oa_sm, oa_sv, oa_sq, om_si, om_sl, om_sa, om_sm, om_sv, om_sq, ov_si, ov_sl, ov_sa, ov_sm, ov_sv, ov_sq, oq_si, oq_sl, oq_sa, oq_sm, oq_sv, oq_sq, Nat.reduceEqDiff, ↓reduceIte]; done) | omega | (exact ixn (by omega) (by omega)) | (exact ixl (by decide) (by decide)) | (simp only [pt_len, pl, z0, z1, z2, z3, z4, z5, z6, z7, z8, z9, z10, z11, z12]; omega)) only [↓gb_m, ↓gc_m, ↓gl_s, ↓gg_m, gb_s, gc_s, gg_t, gqm_0, gqm_1, pt_pt, sa_sa, sm_sm, si_si, qk12, qg12_0, qs12_0, qg12_1, qg12_2, qs12_2, qg12_3, qs12_3, qg12_4, qg12_5, qg12_6, qg12_7, qs12_7, qg12_8, qs12_8, qg12_9, qg12_10, qg12_11, qg12_12, qg12_13, qs12_13, qg12_14, qg12_15, qg12_16, qg12_17, qg12_18, qs12_18, qg12_19, qg12_20, qg12_21, qg12_22, qg12_23, qs12_23, qg12_24, qs12_24, qg12_25, qs12_25, qg12_26, qs12_26, qg12_27, qs12_27, qg12_28, qs12_28, qg12_29, qg12_30, qs12_30, qg12_31, qg12_32, qg12_33, qg12_34, qg12_35, qg12_36, qs12_36, qg12_37, qs12_37, qg12_38, qs12_38, qg12_39, qs12_39, qg12_40, qs12_40, qg12_41, qg12_42, qs12_42, qg12_43, qs12_43, qg12_44, qs12_44, qg12_45, qs12_45, qg12_46, qs12_46, qg12_47, qa12_1, qe12_1, ql12_1, qa12_4, qe12_4, ql12_4, qa12_5, qe12_5, ql12_5, qa12_6, qe12_6, ql12_6, qa12_9, qe12_9, ql12_9, qa12_10, qe12_10, ql12_10, qa12_11, qe12_11, ql12_11, qa12_12, qe12_12, ql12_12, qa12_14, qe12_14, ql12_14, qa12_15, qe12_15, ql12_15, qa12_16, qe12_16, ql12_16, qa12_17, qe12_17, ql12_17, qa12_19, qe12_19, ql12_19, qa12_20, qe12_20, ql12_20, qa12_21, qe12_21, ql12_21, qa12_22, qe12_22, ql12_22, qa12_29, qe12_29, ql12_29, qa12_31, qe12_31, ql12_31, qa12_32, qe12_32, ql12_32, qa12_33, qe12_33, ql12_33, qa12_34, qe12_34, ql12_34, qa12_35, qe12_35, ql12_35, qa12_41, qe12_41, ql12_41, qa12_47, qe12_47, ql12_47, oi_si, oi_sl, oi_sa, oi_sm, oi_sv, oi_sq, ol_si, ol_sl, ol_sa, ol_sm, ol_sv, ol_sq, oa_si, oa_sl, oa_sa, oa_sm, oa_sv, oa_sq, om_si, om_sl, om_sa, om_sm, om_sv, om_sq, ov_si, ov_sl, ov_sa, ov_sm, ov_sv, ov_sq, oq_si, oq_sl, oq_sa, oq_sm, oq_sv, oq_sq, Nat.reduceEqDiff, ↓reduceIte, n_add, n_addl, n_ladd, n_add1, n_mul, n_lmul, n_mull, n_sub, n_subl, n_subm, n_lt, n_le, n_eq, n_ltl, n_llt, n_lel, n_lle, n_eql, n_leq, n_m1, n_m1l, n_lt0, n_ge0, i_okc, i_okl, if_true, if_false, not_true, not_false, Nat.not_lt_zero, Nat.zero_le, n2, d3.1]
    · have e17 : oa M3 17 = oa M 17 := kC.a (by decide)
      have e47 : oa M3 47 = oa M 47 := kC.a (by decide)
      have e18 : oi M3 18 = oi M 18 := kC.i (by decide)
      have e9 : om M3 9 = om M 9 := kC.m (by decide)
      refine ⟨⟨?_, ?_⟩, ?_, ?_, ?_, k2, fun k c hc => (by cases hc), ?_⟩
      · obtain ⟨r1, r2, r3, r4, r5, r6⟩ := q1.1
        have i1 := r1.1
        have i2 := r1.2.1
        refine ⟨r1, ?_, ?_, ?_, ?_, ?_⟩
        · rw [lo10 0 (by omega)]; exact r2
        · rw [lo10 1 (by omega)]; exact r3
        · rw [lo10 2 (by omega)]; exact r4
        · intro r hr
          have hr' : r < iR (aI A) := hr
          rw [lo10 _ (by omega), lo10 _ (by omega)]
          exact r5 r hr
        · intro g hg
          have hg' : g < iG (aI A) := hg
          rw [lo10 _ (by omega), lo10 _ (by omega), lo10 _ (by omega)]
          exact r6 g hg
      · intro k hk
        have hk' : k < iK (aI A) := hk
        have i3 := q1.1.1.2.2.1
        obtain ⟨a, y1, y2, y3, y4⟩ := q1.2 k hk
        refine ⟨a, ?_, ?_⟩
        · rw [lo10 _ (by omega)]; exact y1
        show RuleM M3 a (iCd (aI A) k)
        refine ⟨y2, ?_, ?_⟩
        · intro j c hc
          have := ln_of hc
          rw [(lo11 (a + j) (by omega)).1, (lo11 (a + j) (by omega)).2]
          exact y3 j c hc
        · rw [(lo11 _ y2).1]
          exact y4
      · show RepSM 0 (aS A) (oa M3 17)
        rw [e17]
        exact q2
      · rw [e18]
        intro z
        exact (q3 z).kp kC (by decide)
      · rw [e17, e47]
        exact q4
      · rw [e9]
        exact q7
  | inr s =>
    rw [← hq', hq] at d3
    obtain ⟨d4, d5⟩ := d3
    obtain ⟨pk, pl⟩ := pInn_ok 1000 ([], [], []) (toks (aT A)) hs0 tv tl (by show 0 + _ ≤ _; omega) s (by rw [← hq']; exact hq)
    have ea : ansInn A = 0 := by unfold ansInn; rw [hq]
    have eS : innS A = (psI s, [], s0A (psI s), fun _ => none) := by unfold innS; rw [hq]
    rw [ea, eS]
    obtain ⟨M4, f1, f2, f3, f4⟩ := m_inn84 (N := N) (h := h) hF 60 0 N M3 rfl (by omega)
    have f1 : gi (fun zk zs => f_X12_inn_84 N zk zs.1 zs.2.1 zs.2.2) N (80, 0, pt sX12 80 M3 h) = _ := f1
    obtain ⟨x1, x2, x3, x4, x5, x6, x7, x8⟩ := d5
    obtain ⟨M5, g1, g2, g3, g4⟩ := m_inn113 (N := N) (h := h) hF (L := (cdAll s.2.2).length) (by omega) (cdAll s.2.2).length 0 N M4 (by omega) (by omega) (by rw [f2.i (by decide)]; exact x8.1)
    have g1 : gi (fun zk zs => f_X12_inn_113 N zk zs.1 zs.2.1 zs.2.2) N (80, 0, pt sX12 80 M4 h) = _ := g1
    have lw : ∀ j, j < 60 → oa M5 10 j = oa M3 10 (60 + j) := by
      intro j hj
      rw [g2.a (by decide)]
      exact f3 j (by omega) hj
    have p0 := pk.1
    have p1 := pk.2.1
    have p2 := pk.2.2.1
    have rin : RepIN (psI s) (oa M5 10) := by
      refine ⟨psI_ok pk, ?_, ?_, ?_, ?_, ?_⟩
      · rw [lw 0 (by omega)]; exact x1
      · rw [lw 1 (by omega)]; exact x2
      · rw [lw 2 (by omega)]; exact x3
      · intro r hr
        have hr : r < s.1.length := hr
        rw [lw _ (by omega), lw _ (by omega)]
        have := x4 r s.1[r] (List.getElem?_eq_getElem hr)
        have e : s.1.getD r (0, 0) = s.1[r] := by rw [List.getD_eq_getElem?_getD, List.getElem?_eq_getElem hr]; rfl
        show _ = Int32.ofNat (s.1.getD r (0, 0)).1 ∧ _ = Int32.ofNat (s.1.getD r (0, 0)).2
        rw [e, show 60 + (3 + 2 * r) = 63 + 2 * r by omega, show 60 + (4 + 2 * r) = 63 + 2 * r + 1 by omega]
        exact this
      · intro g hg
        have hg : g < s.2.1.length := hg
        rw [lw _ (by omega), lw _ (by omega), lw _ (by omega)]
        have := x5 g s.2.1[g] (List.getElem?_eq_getElem hg)
        have e : s.2.1.getD g ([], 0, false, false) = s.2.1[g] := by rw [List.getD_eq_getElem?_getD, List.getElem?_eq_getElem hg]; rfl
        show _ = Int32.ofNat (s.2.1.getD g ([], 0, false, false)).2.1 ∧ _ = Int32.ofNat (if (s.2.1.getD g ([], 0, false, false)).2.2.1 = true then 1 else 0) ∧ _ = Int32.ofNat (if (s.2.1.getD g ([], 0, false, false)).2.2.2 = true then 1 else 0)
        rw [e, show 60 + (23 + 3 * g) = 83 + 3 * g by omega, show 60 + (24 + 3 * g) = 83 + 3 * g + 1 by omega, show 60 + (25 + 3 * g) = 83 + 3 * g + 2 by omega]
        have eb : ∀ b : Bool, eB b = Int32.ofNat (if b = true then 1 else 0) := by intro b; cases b <;> rfl
        rw [← eb, ← eb]
        exact ⟨this.1, this.2.1, this.2.2.1⟩
    obtain ⟨M6, i1, i2, i3, i4, i5, i6, i7⟩ := m_inn161 (N := N) (h := h) hF hN (I := psI s) 520 0 N M5 rfl (by omega) rin
    have i1 : gi (fun zk zs => f_X12_inn_161 N zk zs.1 zs.2.1 zs.2.2) N (80, 0, pt sX12 80 M5 h) = _ := i1
    have hle : ((0 : Int32) ≤ 0) = True := eq_true (by decide)
    refine ⟨M6, ?_, ?_⟩
    · unfold f_X12_inn_70
      simp (disch := first | (with_reducible assumption) | (simp only [oi_si, oi_sl, oi_sa, oi_sm, oi_sv, oi_sq, ol_si, ol_sl, ol_sa, ol_sm, ol_sv, ol_sq, oa_si, oa_sl, oa_sa, oa_sm, oa_sv, oa_sq, om_si, om_sl, om_sa, om_sm, om_sv, om_sq, ov_si, ov_sl, ov_sa, ov_sm, ov_sv, ov_sq, oq_si, oq_sl, oq_sa, oq_sm, oq_sv, oq_sq, Nat.reduceEqDiff, ↓reduceIte]; done) | omega | (exact ixn (by omega) (by omega)) | (exact ixl (by decide) (by decide)) | (simp only [pt_len, pl, z0, z1, z2, z3, z4, z5, z6, z7, z8, z9, z10, z11, z12]; omega)) only [↓gb_m, ↓gc_m, ↓gl_s, ↓gg_m, gb_s, gc_s, gg_t, gqm_0, gqm_1, pt_pt, sa_sa, sm_sm, si_si, qk12, qg12_0, qs12_0, qg12_1, qg12_2, qs12_2, qg12_3, qs12_3, qg12_4, qg12_5, qg12_6, qg12_7, qs12_7, qg12_8, qs12_8, qg12_9, qg12_10, qg12_11, qg12_12, qg12_13, qs12_13, qg12_14, qg12_15, qg12_16, qg12_17, qg12_18, qs12_18, qg12_19, qg12_20, qg12_21, qg12_22, qg12_23, qs12_23, qg12_24, qs12_24, qg12_25, qs12_25, qg12_26, qs12_26, qg12_27, qs12_27, qg12_28, qs12_28, qg12_29, qg12_30, qs12_30, qg12_31, qg12_32, qg12_33, qg12_34, qg12_35, qg12_36, qs12_36, qg12_37, qs12_37, qg12_38, qs12_38, qg12_39, qs12_39, qg12_40, qs12_40, qg12_41, qg12_42, qs12_42, qg12_43, qs12_43, qg12_44, qs12_44, qg12_45, qs12_45, qg12_46, qs12_46, qg12_47, qa12_1, qe12_1, ql12_1, qa12_4, qe12_4, ql12_4, qa12_5, qe12_5, ql12_5, qa12_6, qe12_6, ql12_6, qa12_9, qe12_9, ql12_9, qa12_10, qe12_10, ql12_10, qa12_11, qe12_11, ql12_11, qa12_12, qe12_12, ql12_12, qa12_14, qe12_14, ql12_14, qa12_15, qe12_15, ql12_15, qa12_16, qe12_16, ql12_16, qa12_17, qe12_17, ql12_17, qa12_19, qe12_19, ql12_19, qa12_20, qe12_20, ql12_20, qa12_21, qe12_21, ql12_21, qa12_22, qe12_22, ql12_22, qa12_29, qe12_29, ql12_29, qa12_31, qe12_31, ql12_31, qa12_32, qe12_32, ql12_32, qa12_33, qe12_33, ql12_33, qa12_34, qe12_34, ql12_34, qa12_35, qe12_35, ql12_35, qa12_41, qe12_41, ql12_41, qa12_47, qe12_47, ql12_47, oi_si, oi_sl, oi_sa, oi_sm, oi_sv, oi_sq, ol_si, ol_sl, ol_sa, ol_sm, ol_sv, ol_sq, oa_si, oa_sl, oa_sa, oa_sm, oa_sv, oa_sq, om_si, om_sl, om_sa, om_sm, om_sv, om_sq, ov_si, ov_sl, ov_sa, ov_sm, ov_sv, ov_sq, oq_si, oq_sl, oq_sa, oq_sm, oq_sv, oq_sq, Nat.reduceEqDiff, ↓reduceIte, n_add, n_addl, n_ladd, n_add1, n_mul, n_lmul, n_mull, n_sub, n_subl, n_subm, n_lt, n_le, n_eq, n_ltl, n_llt, n_lel, n_lle, n_eql, n_leq, n_m1, n_m1l, n_lt0, n_ge0, i_okc, i_okl, if_true, if_false, not_true, not_false, Nat.not_lt_zero, Nat.zero_le, d4, hle, f1, g1, i1]
    · have k36 : Keep [10, 11, 12, 17, 18, 47] M3 M6 := (f2.up (by decide)).tr ((g2.up (by decide)).tr (i2.up (by decide)))
      refine ⟨⟨?_, ?_⟩, ?_, ?_, ?_, ?_, fun k c hc => (by cases hc), ?_⟩
      · show RepIN (psI s) (oa M6 10)
        rw [i2.a (by decide)]
        exact rin
      · intro k hk
        have hk : k < s.2.2.length := hk
        obtain ⟨y1, y2, y3⟩ := cdAll_at s.2.2 k s.2.2[k] (List.getElem?_eq_getElem hk)
        have e : s.2.2.getD k [] = s.2.2[k] := by rw [List.getD_eq_getElem?_getD, List.getElem?_eq_getElem hk]; rfl
        have eC : iCd (psI s) k = s.2.2[k] := e
        have cp : ∀ (j : Nat) (c : Cd), (cdAll s.2.2)[j]? = some c → oa M6 11 j = Int32.ofNat c.1 ∧ oa M6 12 j = cArg c := by
          intro j c hc
          have hj := ln_of hc
          have z := g3 j (by omega) hj
          rw [i2.a (by decide), i2.a (by decide), z.1, z.2, f2.a (by decide), f2.a (by decide)]
          exact x8.2 j c hc
        refine ⟨(cdAll (s.2.2.take k)).length, ?_, ?_⟩
        · rw [i2.a (by decide), lw _ (by omega), show 60 + (53 + k) = 113 + k by omega]
          exact x7 k hk
        · show RuleM M6 _ (iCd (psI s) k)
          rw [eC]
          refine ⟨by omega, ?_, ?_⟩
          · intro j c hc
            exact cp _ c (y2 j c hc)
          · exact (cp _ _ y3).1
      · show RepSM 0 (s0A (psI s)) (oa M6 17)
        refine ⟨i7, i5 1 (by omega) (by omega) (by omega), fun k e he => (by cases he), i5 402 (by omega) (by omega) (by omega), fun k e he => (by cases he), fun g hg => i5 _ (by omega) (by omega) (by omega), i5 473 (by omega) (by omega) (by omega), fun k e he => (by cases he), i5 495 (by omega) (by omega) (by omega), fun k e he => (by cases he)⟩
      · intro z
        rw [i3] at z
        exact absurd z (by decide)
      · intro m hm
        refine ⟨?_, fun S hS => (by cases hS)⟩
        rw [i4 m hm]
        rfl
      · rw [k36.i (by decide)]
        exact k2
      · rw [k36.m (by decide), kC.m (by decide)]
        exact q7
end MInn

