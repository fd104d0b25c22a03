/-! The component: sight, could -/
theorem insT_app {x : Tri} : ∀ (P Q : List Tri), (∀ y, y ∈ P → y.2.2 ≤ x.2.2) → (∀ y, y ∈ Q → x.2.2 < y.2.2) → insT x (P ++ Q) = P ++ x :: Q := by
  intro P
  induction P with
  | nil =>
    intro Q _ h
    cases Q with
    | nil => rfl
    | cons y Q =>
      show (if x.2.2 < y.2.2 then _ else _) = _
      rw [if_pos (h y (List.mem_cons_self ..))]
      rfl
  | cons z P ih =>
    intro Q h1 h2
    show (if x.2.2 < z.2.2 then _ else z :: insT x (P ++ Q)) = _
    have := h1 z (List.mem_cons_self ..)
    rw [if_neg (by omega), ih Q (fun y hy => h1 y (List.mem_cons_of_mem _ hy)) h2]
    rfl
theorem insT_len (x : Tri) : ∀ l, (insT x l).length = l.length + 1 := by
  intro l
  induction l with
  | nil => rfl
  | cons y l ih =>
    unfold insT
    split
    · rfl
    · rw [List.length_cons, ih, List.length_cons]
theorem insT_mem (x : Tri) : ∀ l y, y ∈ insT x l ↔ y = x ∨ y ∈ l := by
  intro l
  induction l with
  | nil => intro y; simp [insT]
  | cons z l ih =>
    intro y
    unfold insT
    split
    · simp
    · rw [List.mem_cons, ih, List.mem_cons]
      constructor
      · rintro (a | a | a)
        · exact Or.inr (Or.inl a)
        · exact Or.inl a
        · exact Or.inr (Or.inr a)
      · rintro (a | a | a)
        · exact Or.inr (Or.inl a)
        · exact Or.inl a
        · exact Or.inr (Or.inr a)
theorem srt_a (l : List Tri) (x : Tri) : srtT (l ++ [x]) = insT x (srtT l) := by
  unfold srtT
  rw [List.foldl_append]
  rfl
theorem snoc_ind {α : Type} {P : List α → Prop} (h0 : P []) (h1 : ∀ l x, P l → P (l ++ [x])) : ∀ l, P l := by
  intro l
  generalize hn : l.length = n
  induction n generalizing l with
  | zero =>
    have : l = [] := List.eq_nil_of_length_eq_zero hn
    rw [this]; exact h0
  | succ n ih =>
    rcases List.eq_nil_or_concat l with z | ⟨l', x, z⟩
    · rw [z] at hn; cases hn
    · rw [List.concat_eq_append] at z
      subst z
      refine h1 l' x (ih l' ?_)
      rw [List.length_append] at hn
      simp at hn
      exact hn
theorem srt_len : ∀ l, (srtT l).length = l.length := by
  refine snoc_ind rfl (fun l x h => ?_)
  rw [srt_a, insT_len, h, List.length_append]
  rfl
theorem srt_mem : ∀ l y, y ∈ srtT l ↔ y ∈ l := by
  refine snoc_ind (fun y => Iff.rfl) (fun l x h y => ?_)
  rw [srt_a, insT_mem, h, List.mem_append, List.mem_singleton]
  exact Or.comm
def SrtT (l : List Tri) : Prop := ∀ (i j : Nat) (x y : Tri), i < j → l[i]? = some x → l[j]? = some y → x.2.2 ≤ y.2.2
/-- where to put one in -/
theorem srt_cut {l : List Tri} (hs : SrtT l) {m k : Nat} (hk : k ≤ l.length) (h1 : ∀ y, k ≠ 0 → l[k - 1]? = some y → y.2.2 ≤ m) (h2 : ∀ (j : Nat) (y : Tri), k ≤ j → l[j]? = some y → m < y.2.2) {x : Tri} (hx : x.2.2 = m) : insT x l = l.take k ++ x :: l.drop k := by
  have e : l.take k ++ l.drop k = l := List.take_append_drop k l
  conv => lhs; rw [← e]
  refine insT_app _ _ ?_ ?_
  · intro y hy
    obtain ⟨j, hj⟩ := List.getElem?_of_mem hy
    have jl := ln_of hj
    rw [List.length_take] at jl
    rw [List.getElem?_take] at hj
    rw [if_pos (by omega)] at hj
    have hk1 : l[k - 1]? = some l[k - 1] := List.getElem?_eq_getElem (by omega)
    have := h1 _ (by omega) hk1
    rcases Nat.lt_or_ge j (k - 1) with w | w
    · have := hs j (k - 1) y _ w hj hk1
      omega
    · have : j = k - 1 := by omega
      subst this
      rw [hj] at hk1
      cases hk1
      omega
  · intro y hy
    obtain ⟨j, hj⟩ := List.getElem?_of_mem hy
    rw [List.getElem?_drop] at hj
    rw [hx]
    exact h2 (k + j) y (by omega) hj
theorem ins_srt {l : List Tri} (hs : SrtT l) (x : Tri) : SrtT (insT x l) := by
  have aux : ∀ (P : List Tri), (∀ y, y ∈ P → y.2.2 ≤ x.2.2) → SrtT P → ∀ Q, SrtT (P ++ Q) → (∀ y, y ∈ Q → x.2.2 < y.2.2) → SrtT (P ++ x :: Q) := by
    intro P h1 _ Q h2 h3 i j y z hij hy hz
    have sp : ∀ (k : Nat) (w : Tri), (P ++ x :: Q)[k]? = some w → (k < P.length ∧ (P ++ Q)[k]? = some w ∧ w ∈ P) ∨ (k = P.length ∧ w = x) ∨ (P.length < k ∧ (P ++ Q)[k - 1]? = some w ∧ w ∈ Q) := by
      intro k w hw
      rcases Nat.lt_or_ge k P.length with u | u
      · rw [List.getElem?_append_left u] at hw
        exact Or.inl ⟨u, by rw [List.getElem?_append_left u]; exact hw, List.mem_of_getElem? hw⟩
      · rw [List.getElem?_append_right u] at hw
        rcases Nat.eq_zero_or_pos (k - P.length) with v | v
        · rw [v] at hw
          cases hw
          exact Or.inr (Or.inl ⟨by omega, rfl⟩)
        · obtain ⟨d, hd⟩ : ∃ d, k - P.length = d + 1 := ⟨k - P.length - 1, by omega⟩
          rw [hd] at hw
          have hw : Q[d]? = some w := hw
          refine Or.inr (Or.inr ⟨by omega, ?_, List.mem_of_getElem? hw⟩)
          rw [List.getElem?_append_right (by omega), show k - 1 - P.length = d by omega]
          exact hw
    rcases sp i y hy with ⟨a1, a2, a3⟩ | ⟨a1, a2⟩ | ⟨a1, a2, a3⟩
    · rcases sp j z hz with ⟨b1, b2, b3⟩ | ⟨b1, b2⟩ | ⟨b1, b2, b3⟩
      · exact h2 i j y z hij a2 b2
      · rw [b2]; exact h1 y a3
      · exact h2 i (j - 1) y z (by omega) a2 b2
    · rcases sp j z hz with ⟨b1, b2, b3⟩ | ⟨b1, b2⟩ | ⟨b1, b2, b3⟩
      · omega
      · omega
      · have := h3 z b3
        rw [a2]; omega
    · rcases sp j z hz with ⟨b1, b2, b3⟩ | ⟨b1, b2⟩ | ⟨b1, b2, b3⟩
      · omega
      · omega
      · exact h2 (i - 1) (j - 1) y z (by omega) a2 b2
  -- cut the list where x belongs
  have cut : ∀ l : List Tri, SrtT l → ∃ P Q, l = P ++ Q ∧ (∀ y, y ∈ P → y.2.2 ≤ x.2.2) ∧ (∀ y, y ∈ Q → x.2.2 < y.2.2) := by
    intro l
    induction l with
    | nil => intro _; exact ⟨[], [], rfl, fun y hy => (by cases hy), fun y hy => (by cases hy)⟩
    | cons z l ih =>
      intro h
      have h' : SrtT l := fun i j a c hij ha hc => h (i + 1) (j + 1) a c (by omega) ha hc
      by_cases w : z.2.2 ≤ x.2.2
      · obtain ⟨P, Q, e, a, c⟩ := ih h'
        exact ⟨z :: P, Q, by rw [e]; rfl, fun y hy => by
          rcases List.mem_cons.mp hy with u | u
          · rw [u]; exact w
          · exact a y u, c⟩
      · refine ⟨[], z :: l, rfl, fun y hy => (by cases hy), fun y hy => ?_⟩
        rcases List.mem_cons.mp hy with u | u
        · rw [u]; omega
        · obtain ⟨j, hj⟩ := List.getElem?_of_mem u
          have := h 0 (j + 1) z y (by omega) rfl hj
          omega
  obtain ⟨P, Q, e, a, c⟩ := cut l hs
  subst e
  rw [insT_app P Q a c]
  exact aux P a (fun i j y z hij hy hz => hs i j y z hij (by rw [List.getElem?_append_left (ln_of hy)]; exact hy) (by rw [List.getElem?_append_left (ln_of hz)]; exact hz)) Q hs c
theorem srt_srt : ∀ l, SrtT (srtT l) := by
  refine snoc_ind (fun i j x y _ h => (by cases h)) (fun l x h => ?_)
  rw [srt_a]
  exact ins_srt h x
theorem srt_all (p : Tri → Bool) (l : List Tri) : (srtT l).all p = l.all p := by
  rw [Bool.eq_iff_iff, List.all_eq_true, List.all_eq_true]
  exact ⟨fun h x hx => h x ((srt_mem l x).mpr hx), fun h x hx => h x ((srt_mem l x).mp hx)⟩
section CSight
variable {N : Nat} {A : AA}
theorem c_addS {D : OD} {h : PH} {p : Nat} {l : List Tri} (hN : 2000 ≤ N) (hF : p + 6 ≤ h.length) (hl : l.length < 20) (hs : SrtT l) (hb : ∀ y, y ∈ l → y.2.2 ≤ 99999) (d2 : oi D 5 = Int32.ofNat l.length) (d3 : RepTri l D) {g r m : Nat} (hm : m ≤ 99999) : ∃ D', f_X8_add N p (Int32.ofNat g) (Int32.ofNat r) (Int32.ofNat m) (pt sX8 p D h) = some (1, pt sX8 p D' h) ∧ oi D' 5 = Int32.ofNat (l.length + 1) ∧ RepTri (insT (g, r, m) l) D' := by
  have lp : ∀ k mm D', k ≤ l.length → k < mm → oi D' 5 = Int32.ofNat l.length → (∀ (j : Nat) (y : Tri), j < k → l[j]? = some y → oa D' 0 j = Int32.ofNat y.1 ∧ oa D' 1 j = Int32.ofNat y.2.1 ∧ oa D' 2 j = Int32.ofNat y.2.2) → (∀ (j : Nat) (y : Tri), k ≤ j → l[j]? = some y → m < y.2.2 ∧ oa D' 0 (j + 1) = Int32.ofNat y.1 ∧ oa D' 1 (j + 1) = Int32.ofNat y.2.1 ∧ oa D' 2 (j + 1) = Int32.ofNat y.2.2) → ∃ D'', gi (fun zk zs => f_X8_add_17 N zk zs.1 zs.2.1 zs.2.2.1 zs.2.2.2.1 zs.2.2.2.2.1 zs.2.2.2.2.2) mm (p, Int32.ofNat g, Int32.ofNat r, Int32.ofNat m, Int32.ofNat k, pt sX8 p D' h) = some (1, pt sX8 p D'' h) ∧ oi D'' 5 = Int32.ofNat (l.length + 1) ∧ RepTri (insT (g, r, m) l) D'' := by
    intro k
    induction k with
    | zero =>
      intro mm D' hk hmm h5 hlo hhi
      refine ⟨si (sa (sa (sa D' 0 (upd (oa D' 0) 0 (Int32.ofNat g))) 1 (upd (oa D' 1) 0 (Int32.ofNat r))) 2 (upd (oa D' 2) 0 (Int32.ofNat m))) 5 (Int32.ofNat (l.length + 1)), ?_, by rw [oi_si, if_pos rfl], ?_⟩
      · have z : (Int32.ofNat 0 ≤ 0) = True := eq_true (by decide)
        obtain ⟨mm, rfl⟩ : ∃ k, mm = k + 1 := ⟨mm - 1, by omega⟩
        rw [gi_1]
        generalize hz : gi _ mm = zk
        dsimp only
        unfold f_X8_add_17 f_X8_add_89
        simp (disch := first | (with_reducible assumption) | (simp only [oi_si, oi_sl, oi_sa, oi_sm, oi_sv, oi_sq, ol_si, ol_sl, ol_sa, ol_sm, ol_sv, ol_sq, oa_si, oa_sl, oa_sa, oa_sm, oa_sv, oa_sq, om_si, om_sl, om_sa, om_sm, om_sv, om_sq, ov_si, ov_sl, ov_sa, ov_sm, ov_sv, ov_sq, oq_si, oq_sl, oq_sa, oq_sm, oq_sv, oq_sq, Nat.reduceEqDiff, ↓reduceIte]; done) | omega | (exact ixn (by omega) (by omega)) | (exact ixl (by decide) (by decide)) | (simp only [pt_len, pl, z0, z1, z2, z3, z4, z5, z6, z7, z8, z9, z10, z11, z12]; omega)) only [↓gb_m, ↓gc_m, ↓gl_s, ↓gg_m, gb_s, gc_s, gg_t, gqm_0, gqm_1, pt_pt, sa_sa, sm_sm, si_si, qk8, qg8_0, qg8_1, qg8_2, qg8_3, qg8_4, qg8_5, qs8_5, qa8_0, qe8_0, ql8_0, qa8_1, qe8_1, ql8_1, qa8_2, qe8_2, ql8_2, qa8_3, qe8_3, ql8_3, qa8_4, qe8_4, ql8_4, oi_si, oi_sl, oi_sa, oi_sm, oi_sv, oi_sq, ol_si, ol_sl, ol_sa, ol_sm, ol_sv, ol_sq, oa_si, oa_sl, oa_sa, oa_sm, oa_sv, oa_sq, om_si, om_sl, om_sa, om_sm, om_sv, om_sq, ov_si, ov_sl, ov_sa, ov_sm, ov_sv, ov_sq, oq_si, oq_sl, oq_sa, oq_sm, oq_sv, oq_sq, Nat.reduceEqDiff, ↓reduceIte, n_add, n_addl, n_ladd, n_add1, n_mul, n_lmul, n_mull, n_sub, n_subl, n_subm, n_lt, n_le, n_eq, n_ltl, n_llt, n_lel, n_lle, n_eql, n_leq, n_m1, n_m1l, n_lt0, n_ge0, i_okc, i_okl, if_true, if_false, not_true, not_false, Nat.not_lt_zero, Nat.zero_le, z, h5, gnar_0, gzb1]
      · rw [srt_cut hs (k := 0) (m := m) (by omega) (fun y z => absurd rfl z) (fun j y hj hy => (hhi j y hj hy).1) rfl]
        intro j y hy
        rw [List.take_zero, List.drop_zero, List.nil_append] at hy
        simp only [oi_si, oi_sl, oi_sa, oi_sm, oi_sv, oi_sq, ol_si, ol_sl, ol_sa, ol_sm, ol_sv, ol_sq, oa_si, oa_sl, oa_sa, oa_sm, oa_sv, oa_sq, om_si, om_sl, om_sa, om_sm, om_sv, om_sq, ov_si, ov_sl, ov_sa, ov_sm, ov_sv, ov_sq, oq_si, oq_sl, oq_sa, oq_sm, oq_sv, oq_sq, Nat.reduceEqDiff, ↓reduceIte]
        cases j with
        | zero =>
          cases hy
          rw [upd_eq rfl, upd_eq rfl, upd_eq rfl]
          exact ⟨rfl, rfl, rfl⟩
        | succ j =>
          have hy : l[j]? = some y := hy
          rw [upd_ne (by omega), upd_ne (by omega), upd_ne (by omega)]
          exact (hhi j y (by omega) hy).2
    | succ k ih =>
      intro mm D' hk hmm h5 hlo hhi
      have hkl : k < l.length := by omega
      obtain ⟨x, hx⟩ : ∃ x, l[k]? = some x := ⟨_, List.getElem?_eq_getElem hkl⟩
      obtain ⟨x0, x1, x2⟩ := hlo k x (by omega) hx
      have xb := hb x (List.mem_of_getElem? hx)
      have z : (Int32.ofNat (k + 1) ≤ 0) = False := nleF (b := 0) (by omega) (by omega) (by omega)
      by_cases c : x.2.2 ≤ m
      · refine ⟨si (sa (sa (sa D' 0 (upd (oa D' 0) (k + 1) (Int32.ofNat g))) 1 (upd (oa D' 1) (k + 1) (Int32.ofNat r))) 2 (upd (oa D' 2) (k + 1) (Int32.ofNat m))) 5 (Int32.ofNat (l.length + 1)), ?_, by rw [oi_si, if_pos rfl], ?_⟩
        · have c' : (Int32.ofNat x.2.2 ≤ Int32.ofNat m) = True := nleT c (by omega) (by omega)
          obtain ⟨mm, rfl⟩ : ∃ k, mm = k + 1 := ⟨mm - 1, by omega⟩
          rw [gi_1]
          generalize hz : gi _ mm = zk
          dsimp only
          unfold f_X8_add_17 f_X8_add_89
          simp (disch := first | (with_reducible assumption) | (simp only [oi_si, oi_sl, oi_sa, oi_sm, oi_sv, oi_sq, ol_si, ol_sl, ol_sa, ol_sm, ol_sv, ol_sq, oa_si, oa_sl, oa_sa, oa_sm, oa_sv, oa_sq, om_si, om_sl, om_sa, om_sm, om_sv, om_sq, ov_si, ov_sl, ov_sa, ov_sm, ov_sv, ov_sq, oq_si, oq_sl, oq_sa, oq_sm, oq_sv, oq_sq, Nat.reduceEqDiff, ↓reduceIte]; done) | omega | (exact ixn (by omega) (by omega)) | (exact ixl (by decide) (by decide)) | (simp only [pt_len, pl, z0, z1, z2, z3, z4, z5, z6, z7, z8, z9, z10, z11, z12]; omega)) only [↓gb_m, ↓gc_m, ↓gl_s, ↓gg_m, gb_s, gc_s, gg_t, gqm_0, gqm_1, pt_pt, sa_sa, sm_sm, si_si, qk8, qg8_0, qg8_1, qg8_2, qg8_3, qg8_4, qg8_5, qs8_5, qa8_0, qe8_0, ql8_0, qa8_1, qe8_1, ql8_1, qa8_2, qe8_2, ql8_2, qa8_3, qe8_3, ql8_3, qa8_4, qe8_4, ql8_4, oi_si, oi_sl, oi_sa, oi_sm, oi_sv, oi_sq, ol_si, ol_sl, ol_sa, ol_sm, ol_sv, ol_sq, oa_si, oa_sl, oa_sa, oa_sm, oa_sv, oa_sq, om_si, om_sl, om_sa, om_sm, om_sv, om_sq, ov_si, ov_sl, ov_sa, ov_sm, ov_sv, ov_sq, oq_si, oq_sl, oq_sa, oq_sm, oq_sv, oq_sq, Nat.reduceEqDiff, ↓reduceIte, n_add, n_addl, n_ladd, n_add1, n_mul, n_lmul, n_mull, n_sub, n_subl, n_subm, n_lt, n_le, n_eq, n_ltl, n_llt, n_lel, n_lle, n_eql, n_leq, n_m1, n_m1l, n_lt0, n_ge0, i_okc, i_okl, if_true, if_false, not_true, not_false, Nat.not_lt_zero, Nat.zero_le, z, Nat.add_sub_cancel, x2, c', h5, gnar_0, gzb1]
        · rw [srt_cut hs (k := k + 1) (m := m) hk (fun y _ hy => by
            rw [Nat.add_sub_cancel] at hy
            rw [hx] at hy
            cases hy
            exact c) (fun j y hj hy => (hhi j y hj hy).1) rfl]
          intro j y hy
          have tl : (l.take (k + 1)).length = k + 1 := by rw [List.length_take]; omega
          simp only [oi_si, oi_sl, oi_sa, oi_sm, oi_sv, oi_sq, ol_si, ol_sl, ol_sa, ol_sm, ol_sv, ol_sq, oa_si, oa_sl, oa_sa, oa_sm, oa_sv, oa_sq, om_si, om_sl, om_sa, om_sm, om_sv, om_sq, ov_si, ov_sl, ov_sa, ov_sm, ov_sv, ov_sq, oq_si, oq_sl, oq_sa, oq_sm, oq_sv, oq_sq, Nat.reduceEqDiff, ↓reduceIte]
          rcases Nat.lt_or_ge j (k + 1) with u | u
          · rw [List.getElem?_append_left (by omega), List.getElem?_take, if_pos u] at hy
            rw [upd_ne (by omega), upd_ne (by omega), upd_ne (by omega)]
            exact hlo j y u hy
          · rw [List.getElem?_append_right (by omega), tl] at hy
            by_cases w : j = k + 1
            · subst w
              rw [Nat.sub_self] at hy
              cases hy
              rw [upd_eq rfl, upd_eq rfl, upd_eq rfl]
              exact ⟨rfl, rfl, rfl⟩
            · obtain ⟨d, rfl⟩ : ∃ d, j = k + 1 + (d + 1) := ⟨j - (k + 2), by omega⟩
              rw [Nat.add_sub_cancel_left] at hy
              have hy : (l.drop (k + 1))[d]? = some y := hy
              rw [List.getElem?_drop] at hy
              rw [upd_ne (by omega), upd_ne (by omega), upd_ne (by omega)]
              exact (hhi (k + 1 + d) y (by omega) hy).2
      · have c' : (Int32.ofNat x.2.2 ≤ Int32.ofNat m) = False := nleF c (by omega) (by omega)
        obtain ⟨D'', a1, a2, a3⟩ := ih (mm - 1) (sa (sa (sa D' 0 (upd (oa D' 0) (k + 1) (Int32.ofNat x.1))) 1 (upd (oa D' 1) (k + 1) (Int32.ofNat x.2.1))) 2 (upd (oa D' 2) (k + 1) (Int32.ofNat x.2.2))) (by omega) (by omega) h5 (by
            intro j y hj hy
            simp only [oi_si, oi_sl, oi_sa, oi_sm, oi_sv, oi_sq, ol_si, ol_sl, ol_sa, ol_sm, ol_sv, ol_sq, oa_si, oa_sl, oa_sa, oa_sm, oa_sv, oa_sq, om_si, om_sl, om_sa, om_sm, om_sv, om_sq, ov_si, ov_sl, ov_sa, ov_sm, ov_sv, ov_sq, oq_si, oq_sl, oq_sa, oq_sm, oq_sv, oq_sq, Nat.reduceEqDiff, ↓reduceIte]
            rw [upd_ne (by omega), upd_ne (by omega), upd_ne (by omega)]
            exact hlo j y (by omega) hy) (by
            intro j y hj hy
            simp only [oi_si, oi_sl, oi_sa, oi_sm, oi_sv, oi_sq, ol_si, ol_sl, ol_sa, ol_sm, ol_sv, ol_sq, oa_si, oa_sl, oa_sa, oa_sm, oa_sv, oa_sq, om_si, om_sl, om_sa, om_sm, om_sv, om_sq, ov_si, ov_sl, ov_sa, ov_sm, ov_sv, ov_sq, oq_si, oq_sl, oq_sa, oq_sm, oq_sv, oq_sq, Nat.reduceEqDiff, ↓reduceIte]
            by_cases w : j = k
            · subst w
              rw [hx] at hy
              cases hy
              rw [upd_eq rfl, upd_eq rfl, upd_eq rfl]
              exact ⟨by omega, rfl, rfl, rfl⟩
            · rw [upd_ne (by omega), upd_ne (by omega), upd_ne (by omega)]
              exact hhi j y (by omega) hy)
        refine ⟨D'', ?_, a2, a3⟩
        obtain ⟨mm, rfl⟩ : ∃ k, mm = k + 1 := ⟨mm - 1, by omega⟩
        rw [gi_1]
        rw [show mm + 1 - 1 = mm by omega] at a1
        generalize hz : gi _ mm = zk at a1 ⊢
        dsimp only
        unfold f_X8_add_17
        simp (disch := first | (with_reducible assumption) | (simp only [oi_si, oi_sl, oi_sa, oi_sm, oi_sv, oi_sq, ol_si, ol_sl, ol_sa, ol_sm, ol_sv, ol_sq, oa_si, oa_sl, oa_sa, oa_sm, oa_sv, oa_sq, om_si, om_sl, om_sa, om_sm, om_sv, om_sq, ov_si, ov_sl, ov_sa, ov_sm, ov_sv, ov_sq, oq_si, oq_sl, oq_sa, oq_sm, oq_sv, oq_sq, Nat.reduceEqDiff, ↓reduceIte]; done) | omega | (exact ixn (by omega) (by omega)) | (exact ixl (by decide) (by decide)) | (simp only [pt_len, pl, z0, z1, z2, z3, z4, z5, z6, z7, z8, z9, z10, z11, z12]; omega)) only [↓gb_m, ↓gc_m, ↓gl_s, ↓gg_m, gb_s, gc_s, gg_t, gqm_0, gqm_1, pt_pt, sa_sa, sm_sm, si_si, qk8, qg8_0, qg8_1, qg8_2, qg8_3, qg8_4, qg8_5, qs8_5, qa8_0, qe8_0, ql8_0, qa8_1, qe8_1, ql8_1, qa8_2, qe8_2, ql8_2, qa8_3, qe8_3, ql8_3, qa8_4, qe8_4, ql8_4, oi_si, oi_sl, oi_sa, oi_sm, oi_sv, oi_sq, ol_si, ol_sl, ol_sa, ol_sm, ol_sv, ol_sq, oa_si, oa_sl, oa_sa, oa_sm, oa_sv, oa_sq, om_si, om_sl, om_sa, om_sm, om_sv, om_sq, ov_si, ov_sl, ov_sa, ov_sm, ov_sv, ov_sq, oq_si, oq_sl, oq_sa, oq_sm, oq_sv, oq_sq, Nat.reduceEqDiff, ↓reduceIte, n_add, n_addl, n_ladd, n_add1, n_mul, n_lmul, n_mull, n_sub, n_subl, n_subm, n_lt, n_le, n_eq, n_ltl, n_llt, n_lel, n_lle, n_eql, n_leq, n_m1, n_m1l, n_lt0, n_ge0, i_okc, i_okl, if_true, if_false, not_true, not_false, Nat.not_lt_zero, Nat.zero_le, z, Nat.add_sub_cancel, x0, x1, x2, c', gnar_0, a1]
  obtain ⟨D', a1, a2, a3⟩ := lp l.length N D (Nat.le_refl _) (by omega) d2 (fun j y _ hy => d3 j y hy) (fun j y hj hy => by have := ln_of hy; omega)
  refine ⟨D', ?_, a2, a3⟩
  unfold f_X8_add
  have c : (Int32.ofNat l.length < 20) = True := nltT (b := 20) hl (by omega) (by omega)
  simp (disch := first | (with_reducible assumption) | (simp only [oi_si, oi_sl, oi_sa, oi_sm, oi_sv, oi_sq, ol_si, ol_sl, ol_sa, ol_sm, ol_sv, ol_sq, oa_si, oa_sl, oa_sa, oa_sm, oa_sv, oa_sq, om_si, om_sl, om_sa, om_sm, om_sv, om_sq, ov_si, ov_sl, ov_sa, ov_sm, ov_sv, ov_sq, oq_si, oq_sl, oq_sa, oq_sm, oq_sv, oq_sq, Nat.reduceEqDiff, ↓reduceIte]; done) | omega | (exact ixn (by omega) (by omega)) | (exact ixl (by decide) (by decide)) | (simp only [pt_len, pl, z0, z1, z2, z3, z4, z5, z6, z7, z8, z9, z10, z11, z12]; omega)) only [↓gb_m, ↓gc_m, ↓gl_s, ↓gg_m, gb_s, gc_s, gg_t, gqm_0, gqm_1, pt_pt, sa_sa, sm_sm, si_si, qk8, qg8_0, qg8_1, qg8_2, qg8_3, qg8_4, qg8_5, qs8_5, qa8_0, qe8_0, ql8_0, qa8_1, qe8_1, ql8_1, qa8_2, qe8_2, ql8_2, qa8_3, qe8_3, ql8_3, qa8_4, qe8_4, ql8_4, oi_si, oi_sl, oi_sa, oi_sm, oi_sv, oi_sq, ol_si, ol_sl, ol_sa, ol_sm, ol_sv, ol_sq, oa_si, oa_sl, oa_sa, oa_sm, oa_sv, oa_sq, om_si, om_sl, om_sa, om_sm, om_sv, om_sq, ov_si, ov_sl, ov_sa, ov_sm, ov_sv, ov_sq, oq_si, oq_sl, oq_sa, oq_sm, oq_sv, oq_sq, Nat.reduceEqDiff, ↓reduceIte, n_add, n_addl, n_ladd, n_add1, n_mul, n_lmul, n_mull, n_sub, n_subl, n_subm, n_lt, n_le, n_eq, n_ltl, n_llt, n_lel, n_lle, n_eql, n_leq, n_m1, n_m1l, n_lt0, n_ge0, i_okc, i_okl, if_true, if_false, not_true, not_false, Nat.not_lt_zero, Nat.zero_le, d2, c, a1]
theorem c_sight (hN : 2000 ≤ N) (hA' : AOk A) (g r m : Int32) : CAns A (sightS A g r m) (f_X11_sight N 0 g r m) (ansSight A g r m) := by
  intro h q
  obtain ⟨b, mk, q⟩ := q
  obtain ⟨D, d1, d2, d3⟩ := q.sigh
  have b1 := hA'.1.1
  have b2 := hA'.1.2.1
  have sl := hA'.2.1.2.2.2.1
  have sb := hA'.2.1.2.2.2.2.1
  have bad : sightOk A g r m = false → ∃ h', (some (-1, h) : Option (Int32 × PH)) = some (ansSight A g r m, h') ∧ RepC (sightS A g r m) h' ∧ Fr (fun x => ¬ Md x) h h' := by
    intro z
    unfold ansSight sightS
    rw [z]
    exact ⟨h, rfl, ⟨b, mk, q⟩, Fr.rf⟩
  unfold f_X11_sight f_X11_sight_23 f_X11_sight_55
  rw [q.is11, gg_t, c_isGuest hA' q, gc_s]
  cases z1 : isN g (iG (aI A)) with
  | false => rw [if_pos (eBf _ rfl)]; exact bad (by unfold sightOk; rw [z1]; rfl)
  | true =>
    rw [if_neg (eBt _ rfl), q.is11, gg_t, c_isRoom hA' q, gc_s]
    cases z2 : isN r (iR (aI A)) with
    | false => rw [if_pos (eBf _ rfl)]; exact bad (by unfold sightOk; rw [z1, z2]; rfl)
    | true =>
      rw [if_neg (eBt _ rfl), c_isTold, gc_s]
      cases z3 : isN m 100000 with
      | false => rw [if_pos (eBf _ rfl)]; exact bad (by unfold sightOk; rw [z3, Bool.and_false]; rfl)
      | true =>
        obtain ⟨x, hx, rfl⟩ := isN_t (by omega) z1
        obtain ⟨y, hy, rfl⟩ := isN_t (by omega) z2
        obtain ⟨z, hz, rfl⟩ := isN_t (by omega) z3
        rw [if_neg (eBt _ rfl), q.stt, gb_s, q.e9.2.2.2.2.2.1, gb_s, d1.is rfl, gg_t]
        have hF : 16 + 6 ≤ h.length := d1.1
        by_cases z4 : (sS (aS A)).length < 20
        · have ok : sightOk A (Int32.ofNat x) (Int32.ofNat y) (Int32.ofNat z) = true := by
            unfold sightOk
            rw [z1, z2, z3, decide_eq_true z4]
            rfl
          obtain ⟨D', a1, a2, a3⟩ := c_addS (N := N) (l := srtT (sS (aS A))) (p := 16) (D := D) hN hF (by rw [srt_len]; exact z4) (srt_srt _) (fun w hw => (sb w ((srt_mem _ w).mp hw)).2.2) (by rw [srt_len]; exact d2) d3 (g := x) (r := y) (m := z) (by omega)
          rw [d1.2] at a1
          have p1 := q.2.2.2.2.2.2.1.p8 (l := sS (aS A) ++ [(x, y, z)]) (D := D') ⟨_, d1.p2, by rw [a2, srt_len, List.length_append]; rfl, by rw [srt_a]; exact a3⟩
          have p1 : RSt (aI A) (sR (aS A), sE (aS A), sS (aS A) ++ [(x, y, z)], sP (aS A), sJ (aS A), sB (aS A)) 7 (pt sX8 16 D' h) ∧ Fr (fun x => 16 ≤ x ∧ x < 22) h (pt sX8 16 D' h) := p1
          have q2 := q.st7 (p1.2.up (fun x hx => by omega)) p1.1
          have eA : sightS A (Int32.ofNat x) (Int32.ofNat y) (Int32.ofNat z) = setS A (sR (aS A), sE (aS A), sS (aS A) ++ [(x, y, z)], sP (aS A), sJ (aS A), sB (aS A)) := by
            unfold sightS
            rw [if_pos ok, i_okc (by omega), i_okc (by omega), i_okc (by omega)]
          have ea : ansSight A (Int32.ofNat x) (Int32.ofNat y) (Int32.ofNat z) = Int32.ofNat ((sS (aS A)).length + 1) := by
            unfold ansSight
            rw [if_pos ok]
          have o1 : ∀ {α : Type} (y z : α), (if (1 : Int32) = 0 then y else z) = z := fun y z => if_neg (by decide)
          rw [eA, ea]
          refine ⟨_, ?_, ⟨b, mk, q2⟩, p1.2.nmd (fun x hx => by omega)⟩
          rw [a1, gc_s, o1, q2.stt, gb_s, q2.e9.2.2.2.2.2.1, gb_s, (d1.p2).gI (k := 5) rfl rfl, gb_s, a2, srt_len]
        · have ok : sightOk A (Int32.ofNat x) (Int32.ofNat y) (Int32.ofNat z) = false := by
            unfold sightOk
            rw [decide_eq_false z4, Bool.and_false]
          have l4 : ¬ Int32.ofNat (sS (aS A)).length < 20 := of_eq_false (nltF (b := 20) z4 (by omega) (by omega))
          unfold f_X8_add
          rw [d1.gI (k := 5) rfl rfl, gb_s, d2, if_neg l4, gzb0, gg_t, gc_s, if_pos rfl]
          exact bad ok
theorem c_inReach {I : IA} {D E : OD} {h : PH} {p c : Nat} {l : List Tri} (d1 : At sX8 p D h) (d3 : RepTri l D) (e1 : At sX2 c E h) (e2 : RepIC I E) {k : Nat} {x : Tri} (hx : l[k]? = some x) (hl : l.length ≤ 20) (xr : x.2.1 < iR I) (xm : x.2.2 ≤ 99999) {r m : Nat} (hr : r < iR I) (hm : m ≤ 99999) : f_X8_isInReach N p c (Int32.ofNat k) (Int32.ofNat r) (Int32.ofNat m) h = some (eB (decide (wkD I x.2.1 r ≤ nd x.2.2 m)), h) := by
  obtain ⟨t1, t2, t3⟩ := d3 k x hx
  have kl := ln_of hx
  have b1 := e2.1.1
  have f1 := (e2.1.2.2.2.1 _ xr).1
  have f2 := (e2.1.2.2.2.1 _ hr).1
  have wl : wkD I x.2.1 r < 2147483648 := by
    unfold wkD flD flO nd
    show _ + 2 * (iFl I x.2.1 - iFl I r + (iFl I r - iFl I x.2.1)) < _
    omega
  have nl : nd x.2.2 m < 2147483648 := by unfold nd; omega
  unfold f_X8_isInReach f_X8_isInReach_31
  rw [d1.gR (k := 1) rfl rfl, gb_s, d1.aI (j := 1) rfl (ixn (by omega) (by omega)), gb_s, i_okc (by omega), t2, e1.is rfl, gg_t, c_walk e1 e2 xr hr, gc_s, d1.gR (k := 2) rfl rfl, gb_s, d1.aI (j := 2) rfl (ixn (by omega) (by omega)), gb_s, i_okc (by omega), t3, gabs_n (by omega) (by omega), gzb0, gzb1, gg_t, gg_t]
  by_cases w : wkD I x.2.1 r ≤ nd x.2.2 m
  · rw [if_neg (of_eq_false (nltF (by omega) nl wl)), decide_eq_true w]
    rfl
  · rw [if_pos (of_eq_true (nltT (by omega) nl wl)), decide_eq_false w]
    rfl
theorem c_could (hN : 2000 ≤ N) (hA' : AOk A) (r m : Int32) : CAns A A (f_X11_could N 0 r m) (ansCould A r m) := by
  refine CAns.ro (fun h q => ?_)
  obtain ⟨b, mk, q⟩ := q
  obtain ⟨D, d1, d2, d3⟩ := q.sigh
  obtain ⟨E, e1, e2⟩ := q.innR
  have b1 := hA'.1.1
  have b2 := hA'.1.2.1
  have sl := hA'.2.1.2.2.2.1
  have sb := hA'.2.1.2.2.2.2.1
  unfold f_X11_could f_X11_could_15 ansCould
  rw [q.is11, gg_t, c_isRoom hA' q, gc_s]
  cases z1 : isN r (iR (aI A)) with
  | false => rw [if_pos (eBf _ rfl)]; rfl
  | true =>
    rw [if_neg (eBt _ rfl), c_isTold, gc_s]
    cases z2 : isN m 100000 with
    | false => rw [if_pos (eBf _ rfl)]; rfl
    | true =>
      obtain ⟨x, hx, rfl⟩ := isN_t (by omega) z1
      obtain ⟨y, hy, rfl⟩ := isN_t (by omega) z2
      have tt : (true && true) = true := rfl
      rw [if_neg (eBt _ rfl), q.stt, gb_s, q.e9.2.2.2.2.2.1, gb_s, q.cur, gb_s, d1.is rfl, gg_t, if_pos tt, i_okc (by omega), i_okc (by omega)]
      have sL := srt_len (sS (aS A))
      have lp : ∀ n k mm, k + n = (srtT (sS (aS A))).length → n < mm → gi (fun zk zs => f_X8_possibleIn_13 N zk zs.1 zs.2.1 zs.2.2.1 zs.2.2.2.1 zs.2.2.2.2.1 zs.2.2.2.2.2.1 zs.2.2.2.2.2.2) mm (16, cu b, Int32.ofNat x, Int32.ofNat y, Int32.ofNat (msk (cdS (aI A) x y ((srtT (sS (aS A))).take k)) (iG (aI A))), Int32.ofNat k, h) = some (Int32.ofNat (msk (cdS (aI A) x y (srtT (sS (aS A)))) (iG (aI A))), h) := by
        intro n
        induction n with
        | zero =>
          intro k mm hk hm
          have : k = (srtT (sS (aS A))).length := by omega
          rw [this, List.take_length]
          obtain ⟨mm, rfl⟩ : ∃ j, mm = j + 1 := ⟨mm - 1, by omega⟩
          rw [gi_1]
          dsimp only
          unfold f_X8_possibleIn_13
          rw [d1.gI (k := 5) rfl rfl, gb_s, d2, if_pos (of_eq_true (nleT (by omega) (by omega) (by omega)))]
        | succ n ih =>
          intro k mm hk hm
          obtain ⟨mm, rfl⟩ : ∃ j, mm = j + 1 := ⟨mm - 1, by omega⟩
          have ih2 := ih (k + 1) mm (by omega) (by omega)
          have hkl : k < (srtT (sS (aS A))).length := by omega
          obtain ⟨w, hw⟩ : ∃ w, (srtT (sS (aS A)))[k]? = some w := ⟨_, List.getElem?_eq_getElem hkl⟩
          obtain ⟨w1, w2, w3⟩ := sb w ((srt_mem _ w).mp (List.mem_of_getElem? hw))
          have ir := c_inReach (N := N) d1 d3 e1 e2 hw (by omega) w2 w3 hx (show y ≤ 99999 by omega)
          have tk : (srtT (sS (aS A))).take (k + 1) = (srtT (sS (aS A))).take k ++ [w] := by
            rw [List.take_add_one, hw]
            rfl
          have ce : ∀ gg, cdS (aI A) x y ((srtT (sS (aS A))).take (k + 1)) gg = (cdS (aI A) x y ((srtT (sS (aS A))).take k) gg && (!(decide (w.1 = gg)) || decide (wkD (aI A) w.2.1 x ≤ nd w.2.2 y))) := by
            intro gg
            unfold cdS
            rw [tk, List.all_append]
            simp
          rw [gi_1]
          generalize hz : gi _ mm = zk at ih2
          dsimp only
          unfold f_X8_possibleIn_13 f_X8_possibleIn_50
          rw [d1.gI (k := 5) rfl rfl, gb_s, d2, if_neg (of_eq_false (nleF (by omega) (by omega) (by omega))), d1.is rfl, gg_t, ir, gc_s]
          by_cases c : wkD (aI A) w.2.1 x ≤ nd w.2.2 y
          · have em : msk (cdS (aI A) x y ((srtT (sS (aS A))).take (k + 1))) (iG (aI A)) = msk (cdS (aI A) x y ((srtT (sS (aS A))).take k)) (iG (aI A)) := by
              refine msk_ext (fun gg _ => ?_)
              rw [ce gg, decide_eq_true c, Bool.or_true, Bool.and_true]
            rw [em] at ih2
            rw [decide_eq_true c, if_neg (eBt _ rfl), gl_s, n_add1]
            exact ih2
          · have em : msk (cdS (aI A) x y ((srtT (sS (aS A))).take (k + 1))) (iG (aI A)) = msk (fu (cdS (aI A) x y ((srtT (sS (aS A))).take k)) w.1 false) (iG (aI A)) := by
              refine msk_ext (fun gg _ => ?_)
              rw [ce gg, decide_eq_false c, Bool.or_false, fu_at]
              by_cases u : gg = w.1
              · rw [if_pos u, decide_eq_true u.symm]
                simp
              · rw [if_neg u, decide_eq_false (fun z => u z.symm)]
                simp
            rw [em] at ih2
            rw [decide_eq_false c, if_pos (eBf _ rfl), d1.gR (k := 0) rfl rfl, gb_s, d1.aI (j := 0) rfl (ixn (by omega) (by omega)), gb_s, i_okc (by omega), (d3 k w hw).1, gl_s, gl_s, n_add1, shl1 w.1 (by omega), msk_out _ (by omega)]
            exact ih2
      have := lp (srtT (sS (aS A))).length 0 N (by omega) (by omega)
      have e0 : (1 : Int32) <<< (Int32.ofNat (iG (aI A)) &&& 31) - 1 = Int32.ofNat (msk (cdS (aI A) x y ((srtT (sS (aS A))).take 0)) (iG (aI A))) := by
        rw [shl1 _ (by omega)]
        have := msk_1 (iG (aI A))
        show Int32.ofNat (2 ^ iG (aI A)) - Int32.ofNat 1 = _
        rw [n_sub (Nat.one_le_two_pow)]
        congr 1
        have : msk (cdS (aI A) x y ((srtT (sS (aS A))).take 0)) (iG (aI A)) = msk (fun _ => true) (iG (aI A)) := msk_ext (fun k _ => rfl)
        omega
      have ef : msk (cdS (aI A) x y (srtT (sS (aS A)))) (iG (aI A)) = msk (cdS (aI A) x y (sS (aS A))) (iG (aI A)) := msk_ext (fun k _ => srt_all _ _)
      unfold f_X8_possibleIn
      rw [e1.gI (k := 1) rfl rfl, gb_s, e2.2.2.1, gl_s, e0]
      rw [ef] at this
      have this : gi (fun zk zs => f_X8_possibleIn_13 N zk zs.1 zs.2.1 zs.2.2.1 zs.2.2.2.1 zs.2.2.2.2.1 zs.2.2.2.2.2.1 zs.2.2.2.2.2.2) N (16, cu b, Int32.ofNat x, Int32.ofNat y, Int32.ofNat (msk (cdS (aI A) x y ((srtT (sS (aS A))).take 0)) (iG (aI A))), 0, h) = _ := this
      rw [this, gc_s]
end CSight

