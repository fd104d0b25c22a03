/-! The component: liars -/
section CLiar
variable {I : IA} {l : List Tri}
def csQ (I : IA) (l : List Tri) : Nat → Nat → Nat
  | 0 => fun _ => 0
  | k + 1 => fu (csQ I l k) k (1 + mxc I l (csQ I l k) k k)
theorem mxc_ext {c c' : Nat → Nat} {i : Nat} : ∀ k, (∀ j, j < k → c j = c' j) → mxc I l c i k = mxc I l c' i k := by
  intro k
  induction k with
  | zero => intro _; rfl
  | succ k ih =>
    intro h
    unfold mxc
    rw [ih (fun j hj => h j (by omega)), h k (by omega)]
theorem csQ_st {j : Nat} : ∀ n, j < n → csQ I l n j = csQ I l (j + 1) j := by
  intro n
  induction n with
  | zero => intro h; omega
  | succ n ih =>
    intro h
    by_cases z : j = n
    · rw [z]
    · show fu (csQ I l n) n _ j = _
      rw [fu_ne z]
      exact ih (by omega)
theorem csQ_ok {n i : Nat} (h : i < n) : csQ I l n i = 1 + mxc I l (csQ I l n) i i := by
  rw [csQ_st n h]
  show fu (csQ I l i) i _ i = _
  rw [fu_eq rfl, mxc_ext i (fun j hj => ?_)]
  rw [csQ_st n (by omega), csQ_st i hj]
theorem mxc_le {c : Nat → Nat} {i B : Nat} : ∀ k, (∀ j, j < k → c j ≤ B) → mxc I l c i k ≤ B := by
  intro k
  induction k with
  | zero => intro _; exact Nat.zero_le _
  | succ k ih =>
    intro h
    have h1 := ih (fun j hj => h j (by omega))
    have h2 := h k (by omega)
    unfold mxc
    split
    · split <;> omega
    · exact h1
theorem lgm_le {c : Nat → Nat} {g B : Nat} : ∀ k, (∀ j, j < k → c j ≤ B) → lgm l c g k ≤ B := by
  intro k
  induction k with
  | zero => intro _; exact Nat.zero_le _
  | succ k ih =>
    intro h
    have h1 := ih (fun j hj => h j (by omega))
    have h2 := h k (by omega)
    unfold lgm
    split
    · split <;> omega
    · exact h1
theorem chn_le {c : Nat → Nat} {n : Nat} (hc : ∀ i, i < n → c i = 1 + mxc I l c i i) : ∀ i, i < n → c i ≤ i + 1 := by
  intro i
  induction i using Nat.strongRecOn with
  | ind i ih =>
    intro hi
    rw [hc i hi]
    have := mxc_le (I := I) (l := l) (c := c) (i := i) (B := i) i (fun j hj => by have := ih j hj (by omega); omega)
    omega
theorem lgm_s (c : Nat → Nat) (i : Nat) : (fun g => lgm l c g (i + 1)) = fu (fun g => lgm l c g i) (tg l i).1 (if lgm l c (tg l i).1 i ≤ c i then c i else lgm l c (tg l i).1 i) := by
  funext g
  rw [fu_at]
  show (if (tg l i).1 = g then _ else _) = _
  by_cases z : g = (tg l i).1
  · rw [if_pos z.symm, if_pos z, z]
  · rw [if_neg (fun w => z w.symm), if_neg z]
theorem gmax_0s {a b : Nat} (ha : a < 2147483648) (hb : b < 2147483648) : gmax 0 (Int32.ofNat a - Int32.ofNat b) = Int32.ofNat (a - b) := by
  by_cases z : b ≤ a
  · rw [n_sub z]
    have := gmax_n (a := 0) (c := a - b) (by omega) (by omega)
    rw [show (0 : Int32) = Int32.ofNat 0 from rfl, this]
    congr 1
    split <;> omega
  · unfold gmax
    rw [if_neg, show a - b = 0 by omega]
    · rfl
    · rw [i_lt, i_sub, i_ok ha, i_ok hb]
      have : (0 : Int32).toInt = 0 := rfl
      rw [this]
      simp only [Int.bmod]
      omega
/-- what stays of the sightings while liars are looked for -/
def LvD (l : List Tri) (D : OD) : Prop := oi D 5 = Int32.ofNat l.length ∧ RepTri l D
variable {N : Nat} {h : PH} {p cc : Nat} {E : OD} {c : Nat → Nat}
theorem c_liIn (hF : p + 6 ≤ h.length) (e1 : At sX2 cc E h) (hd : cc + 7 ≤ p ∨ p + 6 ≤ cc) (e2 : RepIC I E) (hl : l.length ≤ 20) (ho : ∀ x, x ∈ l → x.1 < iG I ∧ x.2.1 < iR I ∧ x.2.2 ≤ 99999) (hc : ∀ i, i < l.length → c i = 1 + mxc I l c i i) {i : Nat} (hi : i < l.length) {mt : Nat} (K : (Nat × Nat × Int32 × Int32 × PH) → Option (Int32 × PH)) : ∀ d k mm D, k + d = i → d < mm → LvD l D → (∀ j, j < i → oa D 3 j = Int32.ofNat (c j)) → oa D 3 i = Int32.ofNat (1 + mxc I l c i k) → (∀ g, g < 10 → oa D 4 g = Int32.ofNat (lgm l c g i)) → ∃ D', gi (fun zk zs => f_X8_fewestFalse_30 N K zk zs.1 zs.2.1 zs.2.2.1 zs.2.2.2.1 zs.2.2.2.2.1 zs.2.2.2.2.2) mm (p, cc, Int32.ofNat mt, Int32.ofNat i, Int32.ofNat k, pt sX8 p D h) = K (p, cc, Int32.ofNat (mt + (c i - lgm l c (tg l i).1 i)), Int32.ofNat (i + 1), pt sX8 p D' h) ∧ LvD l D' ∧ (∀ j, j < i + 1 → oa D' 3 j = Int32.ofNat (c j)) ∧ ∀ g, g < 10 → oa D' 4 g = Int32.ofNat (lgm l c g (i + 1)) := by
  have cl := chn_le hc
  have hgi := e2.1.2.1
  have oi' := ho _ (List.mem_of_getElem? (tg_at hi))
  have gl10 : (tg l i).1 < 10 := by omega
  have lb : lgm l c (tg l i).1 i ≤ 20 := lgm_le i (fun j hj => by have := cl j (by omega); omega)
  have cb := cl i hi
  intro d
  induction d with
  | zero =>
    intro k mm D hk hm hD h3 h3i h4
    have : k = i := by omega
    subst this
    obtain ⟨mm, rfl⟩ : ∃ j, mm = j + 1 := ⟨mm - 1, by omega⟩
    obtain ⟨t1, t2, t3⟩ := hD.2 k _ (tg_at hi)
    rw [← hc k hi] at h3i
    have t4 := h4 _ gl10
    refine ⟨sa D 4 (upd (oa D 4) (tg l k).1 (Int32.ofNat (lgm l c (tg l k).1 k + (c k - lgm l c (tg l k).1 k)))), ?_, hD, ?_, ?_⟩
    · rw [gi_1]
      generalize hz : gi _ mm = zk
      dsimp only
      unfold f_X8_fewestFalse_30
      rw [if_pos (of_eq_true (nleT (Nat.le_refl _) (by omega) (by omega)))]
      simp (disch := first | (with_reducible assumption) | (simp only [oi_si, oi_sl, oi_sa, oi_sm, oi_sv, oi_sq, ol_si, ol_sl, ol_sa, ol_sm, ol_sv, ol_sq, oa_si, oa_sl, oa_sa, oa_sm, oa_sv, oa_sq, om_si, om_sl, om_sa, om_sm, om_sv, om_sq, ov_si, ov_sl, ov_sa, ov_sm, ov_sv, ov_sq, oq_si, oq_sl, oq_sa, oq_sm, oq_sv, oq_sq, Nat.reduceEqDiff, ↓reduceIte]; done) | omega | (exact ixn (by omega) (by omega)) | (exact ixl (by decide) (by decide)) | (simp only [pt_len, pl, z0, z1, z2, z3, z4, z5, z6, z7, z8, z9, z10, z11, z12]; omega)) only [↓gb_m, ↓gc_m, ↓gl_s, ↓gg_m, gb_s, gc_s, gg_t, gqm_0, gqm_1, pt_pt, sa_sa, sm_sm, si_si, qk8, qg8_0, qg8_1, qg8_2, qg8_3, qg8_4, qg8_5, qs8_5, qa8_0, qe8_0, ql8_0, qa8_1, qe8_1, ql8_1, qa8_2, qe8_2, ql8_2, qa8_3, qe8_3, ql8_3, qa8_4, qe8_4, ql8_4, oi_si, oi_sl, oi_sa, oi_sm, oi_sv, oi_sq, ol_si, ol_sl, ol_sa, ol_sm, ol_sv, ol_sq, oa_si, oa_sl, oa_sa, oa_sm, oa_sv, oa_sq, om_si, om_sl, om_sa, om_sm, om_sv, om_sq, ov_si, ov_sl, ov_sa, ov_sm, ov_sv, ov_sq, oq_si, oq_sl, oq_sa, oq_sm, oq_sv, oq_sq, Nat.reduceEqDiff, ↓reduceIte, n_add, n_addl, n_ladd, n_add1, n_mul, n_lmul, n_mull, n_sub, n_subl, n_subm, n_lt, n_le, n_eq, n_ltl, n_llt, n_lel, n_lle, n_eql, n_leq, n_m1, n_m1l, n_lt0, n_ge0, i_okc, i_okl, if_true, if_false, not_true, not_false, Nat.not_lt_zero, Nat.zero_le, t1, h3i, t4, gmax_0s]
    · intro j hj
      show oa D 3 j = _
      by_cases z : j = k
      · rw [z]; exact h3i
      · exact h3 j (by omega)
    · intro g hg
      have e := congrFun (lgm_s (l := l) c k) g
      have e : lgm l c g (k + 1) = _ := e
      rw [e, fu_at]
      show upd (oa D 4) _ _ g = _
      rw [upd_at]
      by_cases z : g = (tg l k).1
      · rw [if_pos z, if_pos z]
        congr 1
        split <;> omega
      · rw [if_neg z, if_neg z]
        exact h4 g hg
  | succ d ih =>
    intro k mm D hk hm hD h3 h3i h4
    have hki : k < i := by omega
    have hkl : k < l.length := by omega
    obtain ⟨mm, rfl⟩ : ∃ j, mm = j + 1 := ⟨mm - 1, by omega⟩
    obtain ⟨t1, t2, t3⟩ := hD.2 i _ (tg_at hi)
    obtain ⟨k1, k2, k3⟩ := hD.2 k _ (tg_at hkl)
    have ok' := ho _ (List.mem_of_getElem? (tg_at hkl))
    have ck := cl k hkl
    have mb : mxc I l c i k ≤ 20 := mxc_le k (fun j hj => by have := cl j (by omega); omega)
    have hk3 := h3 k hki
    have ir := c_inReach (N := N) (At_pt (D := D) hF) hD.2 (e1.fr (P := fun x => p ≤ x ∧ x < p + 6) (Fr.of (fun x q1 q2 => ⟨q1, q2⟩)) (fun x q1 q2 => by simp only [z2] at q2; omega)) e2 (tg_at hkl) hl ok'.2.1 ok'.2.2 oi'.2.1 oi'.2.2
    have b1 : ¬ Int32.ofNat i ≤ Int32.ofNat k := of_eq_false (nleF (by omega) (by omega) (by omega))
    by_cases z : lnk I l i k = true
    · have z' := z
      unfold lnk at z'
      rw [Bool.and_eq_true] at z'
      have g1 := of_decide_eq_true z'.1
      have w1 := of_decide_eq_true z'.2
      have em : mxc I l c i (k + 1) = if mxc I l c i k ≤ c k then c k else mxc I l c i k := by
        show (if lnk I l i k = true then _ else _) = _
        rw [if_pos z]
      rw [decide_eq_true w1] at ir
      have o1 : ¬ eB true = 0 := by decide
      obtain ⟨D', a1, a2, a3, a4⟩ := ih (k + 1) mm (sa D 3 (upd (oa D 3) i (Int32.ofNat (if 1 + mxc I l c i k < c k + 1 then c k + 1 else 1 + mxc I l c i k)))) (by omega) (by omega) hD (fun j hj => by
        show upd (oa D 3) i _ j = _
        rw [upd_ne (by omega)]
        exact h3 j hj) (by
        show upd (oa D 3) i _ i = _
        rw [upd_eq rfl, em]
        congr 1
        split <;> split <;> omega) (fun g hg => h4 g hg)
      refine ⟨D', ?_, a2, a3, a4⟩
      rw [← a1, gi_1]
      generalize hz : gi _ mm = zk
      dsimp only
      unfold f_X8_fewestFalse_30 f_X8_fewestFalse_98
      rw [if_neg b1]
      simp (disch := first | (with_reducible assumption) | (simp only [oi_si, oi_sl, oi_sa, oi_sm, oi_sv, oi_sq, ol_si, ol_sl, ol_sa, ol_sm, ol_sv, ol_sq, oa_si, oa_sl, oa_sa, oa_sm, oa_sv, oa_sq, om_si, om_sl, om_sa, om_sm, om_sv, om_sq, ov_si, ov_sl, ov_sa, ov_sm, ov_sv, ov_sq, oq_si, oq_sl, oq_sa, oq_sm, oq_sv, oq_sq, Nat.reduceEqDiff, ↓reduceIte]; done) | omega | (exact ixn (by omega) (by omega)) | (exact ixl (by decide) (by decide)) | (simp only [pt_len, pl, z0, z1, z2, z3, z4, z5, z6, z7, z8, z9, z10, z11, z12]; omega)) only [↓gb_m, ↓gc_m, ↓gl_s, ↓gg_m, gb_s, gc_s, gg_t, gqm_0, gqm_1, pt_pt, sa_sa, sm_sm, si_si, qk8, qg8_0, qg8_1, qg8_2, qg8_3, qg8_4, qg8_5, qs8_5, qa8_0, qe8_0, ql8_0, qa8_1, qe8_1, ql8_1, qa8_2, qe8_2, ql8_2, qa8_3, qe8_3, ql8_3, qa8_4, qe8_4, ql8_4, oi_si, oi_sl, oi_sa, oi_sm, oi_sv, oi_sq, ol_si, ol_sl, ol_sa, ol_sm, ol_sv, ol_sq, oa_si, oa_sl, oa_sa, oa_sm, oa_sv, oa_sq, om_si, om_sl, om_sa, om_sm, om_sv, om_sq, ov_si, ov_sl, ov_sa, ov_sm, ov_sv, ov_sq, oq_si, oq_sl, oq_sa, oq_sm, oq_sv, oq_sq, Nat.reduceEqDiff, ↓reduceIte, n_add, n_addl, n_ladd, n_add1, n_mul, n_lmul, n_mull, n_sub, n_subl, n_subm, n_lt, n_le, n_eq, n_ltl, n_llt, n_lel, n_lle, n_eql, n_leq, n_m1, n_m1l, n_lt0, n_ge0, i_okc, i_okl, if_true, if_false, not_true, not_false, Nat.not_lt_zero, Nat.zero_le, t1, t2, t3, k1, g1, ir, o1, h3i, hk3, gmax_n]
    · have em : mxc I l c i (k + 1) = mxc I l c i k := by
        show (if lnk I l i k = true then _ else _) = _
        rw [if_neg z]
      obtain ⟨D', a1, a2, a3, a4⟩ := ih (k + 1) mm D (by omega) (by omega) hD h3 (by rw [em]; exact h3i) h4
      refine ⟨D', ?_, a2, a3, a4⟩
      rw [← a1, gi_1]
      generalize hz : gi _ mm = zk
      dsimp only
      unfold f_X8_fewestFalse_30 f_X8_fewestFalse_98
      rw [if_neg b1]
      by_cases g1 : (tg l k).1 = (tg l i).1
      · have w1 : ¬ wkD I (tg l k).2.1 (tg l i).2.1 ≤ nd (tg l k).2.2 (tg l i).2.2 := by
          intro w
          apply z
          unfold lnk
          rw [decide_eq_true g1, decide_eq_true w]
          rfl
        rw [decide_eq_false w1] at ir
        have o1 : eB false = 0 := by decide
        simp (disch := first | (with_reducible assumption) | (simp only [oi_si, oi_sl, oi_sa, oi_sm, oi_sv, oi_sq, ol_si, ol_sl, ol_sa, ol_sm, ol_sv, ol_sq, oa_si, oa_sl, oa_sa, oa_sm, oa_sv, oa_sq, om_si, om_sl, om_sa, om_sm, om_sv, om_sq, ov_si, ov_sl, ov_sa, ov_sm, ov_sv, ov_sq, oq_si, oq_sl, oq_sa, oq_sm, oq_sv, oq_sq, Nat.reduceEqDiff, ↓reduceIte]; done) | omega | (exact ixn (by omega) (by omega)) | (exact ixl (by decide) (by decide)) | (simp only [pt_len, pl, z0, z1, z2, z3, z4, z5, z6, z7, z8, z9, z10, z11, z12]; omega)) only [↓gb_m, ↓gc_m, ↓gl_s, ↓gg_m, gb_s, gc_s, gg_t, gqm_0, gqm_1, pt_pt, sa_sa, sm_sm, si_si, qk8, qg8_0, qg8_1, qg8_2, qg8_3, qg8_4, qg8_5, qs8_5, qa8_0, qe8_0, ql8_0, qa8_1, qe8_1, ql8_1, qa8_2, qe8_2, ql8_2, qa8_3, qe8_3, ql8_3, qa8_4, qe8_4, ql8_4, oi_si, oi_sl, oi_sa, oi_sm, oi_sv, oi_sq, ol_si, ol_sl, ol_sa, ol_sm, ol_sv, ol_sq, oa_si, oa_sl, oa_sa, oa_sm, oa_sv, oa_sq, om_si, om_sl, om_sa, om_sm, om_sv, om_sq, ov_si, ov_sl, ov_sa, ov_sm, ov_sv, ov_sq, oq_si, oq_sl, oq_sa, oq_sm, oq_sv, oq_sq, Nat.reduceEqDiff, ↓reduceIte, n_add, n_addl, n_ladd, n_add1, n_mul, n_lmul, n_mull, n_sub, n_subl, n_subm, n_lt, n_le, n_eq, n_ltl, n_llt, n_lel, n_lle, n_eql, n_leq, n_m1, n_m1l, n_lt0, n_ge0, i_okc, i_okl, if_true, if_false, not_true, not_false, Nat.not_lt_zero, Nat.zero_le, t1, t2, t3, k1, g1, ir, o1]
      · simp (disch := first | (with_reducible assumption) | (simp only [oi_si, oi_sl, oi_sa, oi_sm, oi_sv, oi_sq, ol_si, ol_sl, ol_sa, ol_sm, ol_sv, ol_sq, oa_si, oa_sl, oa_sa, oa_sm, oa_sv, oa_sq, om_si, om_sl, om_sa, om_sm, om_sv, om_sq, ov_si, ov_sl, ov_sa, ov_sm, ov_sv, ov_sq, oq_si, oq_sl, oq_sa, oq_sm, oq_sv, oq_sq, Nat.reduceEqDiff, ↓reduceIte]; done) | omega | (exact ixn (by omega) (by omega)) | (exact ixl (by decide) (by decide)) | (simp only [pt_len, pl, z0, z1, z2, z3, z4, z5, z6, z7, z8, z9, z10, z11, z12]; omega)) only [↓gb_m, ↓gc_m, ↓gl_s, ↓gg_m, gb_s, gc_s, gg_t, gqm_0, gqm_1, pt_pt, sa_sa, sm_sm, si_si, qk8, qg8_0, qg8_1, qg8_2, qg8_3, qg8_4, qg8_5, qs8_5, qa8_0, qe8_0, ql8_0, qa8_1, qe8_1, ql8_1, qa8_2, qe8_2, ql8_2, qa8_3, qe8_3, ql8_3, qa8_4, qe8_4, ql8_4, oi_si, oi_sl, oi_sa, oi_sm, oi_sv, oi_sq, ol_si, ol_sl, ol_sa, ol_sm, ol_sv, ol_sq, oa_si, oa_sl, oa_sa, oa_sm, oa_sv, oa_sq, om_si, om_sl, om_sa, om_sm, om_sv, om_sq, ov_si, ov_sl, ov_sa, ov_sm, ov_sv, ov_sq, oq_si, oq_sl, oq_sa, oq_sm, oq_sv, oq_sq, Nat.reduceEqDiff, ↓reduceIte, n_add, n_addl, n_ladd, n_add1, n_mul, n_lmul, n_mull, n_sub, n_subl, n_subm, n_lt, n_le, n_eq, n_ltl, n_llt, n_lel, n_lle, n_eql, n_leq, n_m1, n_m1l, n_lt0, n_ge0, i_okc, i_okl, if_true, if_false, not_true, not_false, Nat.not_lt_zero, Nat.zero_le, t1, k1, g1]
theorem c_liOut (hN : 2000 ≤ N) (hF : p + 6 ≤ h.length) (e1 : At sX2 cc E h) (hd : cc + 7 ≤ p ∨ p + 6 ≤ cc) (e2 : RepIC I E) (hl : l.length ≤ 20) (ho : ∀ x, x ∈ l → x.1 < iG I ∧ x.2.1 < iR I ∧ x.2.2 ≤ 99999) (hc : ∀ i, i < l.length → c i = 1 + mxc I l c i i) (hs : gsum (fun g => lgm l c g l.length) 10 ≤ l.length) : ∀ d i mm D, i + d = l.length → d < mm → LvD l D → (∀ j, j < i → oa D 3 j = Int32.ofNat (c j)) → (∀ g, g < 10 → oa D 4 g = Int32.ofNat (lgm l c g i)) → ∃ D', gi (fun zk zs => f_X8_fewestFalse_12 N zk zs.1 zs.2.1 zs.2.2.1 zs.2.2.2.1 zs.2.2.2.2) mm (p, cc, Int32.ofNat (gsum (fun g => lgm l c g i) 10), Int32.ofNat i, pt sX8 p D h) = some (Int32.ofNat (l.length - gsum (fun g => lgm l c g l.length) 10), pt sX8 p D' h) ∧ LvD l D' := by
  have cl := chn_le hc
  have hgi := e2.1.2.1
  intro d
  induction d with
  | zero =>
    intro i mm D hk hm hD h3 h4
    have : i = l.length := by omega
    subst this
    obtain ⟨mm, rfl⟩ : ∃ j, mm = j + 1 := ⟨mm - 1, by omega⟩
    refine ⟨D, ?_, hD⟩
    rw [gi_1]
    generalize hz : gi _ mm = zk
    dsimp only
    unfold f_X8_fewestFalse_12
    have d1 := hD.1
    simp (disch := first | (with_reducible assumption) | (simp only [oi_si, oi_sl, oi_sa, oi_sm, oi_sv, oi_sq, ol_si, ol_sl, ol_sa, ol_sm, ol_sv, ol_sq, oa_si, oa_sl, oa_sa, oa_sm, oa_sv, oa_sq, om_si, om_sl, om_sa, om_sm, om_sv, om_sq, ov_si, ov_sl, ov_sa, ov_sm, ov_sv, ov_sq, oq_si, oq_sl, oq_sa, oq_sm, oq_sv, oq_sq, Nat.reduceEqDiff, ↓reduceIte]; done) | omega | (exact ixn (by omega) (by omega)) | (exact ixl (by decide) (by decide)) | (simp only [pt_len, pl, z0, z1, z2, z3, z4, z5, z6, z7, z8, z9, z10, z11, z12]; omega)) only [↓gb_m, ↓gc_m, ↓gl_s, ↓gg_m, gb_s, gc_s, gg_t, gqm_0, gqm_1, pt_pt, sa_sa, sm_sm, si_si, qk8, qg8_0, qg8_1, qg8_2, qg8_3, qg8_4, qg8_5, qs8_5, qa8_0, qe8_0, ql8_0, qa8_1, qe8_1, ql8_1, qa8_2, qe8_2, ql8_2, qa8_3, qe8_3, ql8_3, qa8_4, qe8_4, ql8_4, oi_si, oi_sl, oi_sa, oi_sm, oi_sv, oi_sq, ol_si, ol_sl, ol_sa, ol_sm, ol_sv, ol_sq, oa_si, oa_sl, oa_sa, oa_sm, oa_sv, oa_sq, om_si, om_sl, om_sa, om_sm, om_sv, om_sq, ov_si, ov_sl, ov_sa, ov_sm, ov_sv, ov_sq, oq_si, oq_sl, oq_sa, oq_sm, oq_sv, oq_sq, Nat.reduceEqDiff, ↓reduceIte, n_add, n_addl, n_ladd, n_add1, n_mul, n_lmul, n_mull, n_sub, n_subl, n_subm, n_lt, n_le, n_eq, n_ltl, n_llt, n_lel, n_lle, n_eql, n_leq, n_m1, n_m1l, n_lt0, n_ge0, i_okc, i_okl, if_true, if_false, not_true, not_false, Nat.not_lt_zero, Nat.zero_le, d1, Nat.le_refl]
  | succ d ih =>
    intro i mm D hk hm hD h3 h4
    have hi : i < l.length := by omega
    obtain ⟨mm, rfl⟩ : ∃ j, mm = j + 1 := ⟨mm - 1, by omega⟩
    have oi' := ho _ (List.mem_of_getElem? (tg_at hi))
    rw [gi_1]
    generalize hz : gi (fun zk zs => f_X8_fewestFalse_12 N zk zs.1 zs.2.1 zs.2.2.1 zs.2.2.2.1 zs.2.2.2.2) mm = zk
    dsimp only
    unfold f_X8_fewestFalse_12
    have d1 := hD.1
    obtain ⟨D', a1, a2, a3, a4⟩ := c_liIn (N := N) hF e1 hd e2 hl ho hc hi (mt := gsum (fun g => lgm l c g i) 10) zk i 0 N (sa D 3 (upd (oa D 3) i 1)) (by omega) (by omega) hD (fun j hj => by
      show upd (oa D 3) i _ j = _
      rw [upd_ne (by omega)]
      exact h3 j hj) (by
      show upd (oa D 3) i _ i = _
      rw [upd_eq rfl]
      rfl) h4
    obtain ⟨D2, c1, c2⟩ := ih (i + 1) mm D' (by omega) (by omega) a2 a3 a4
    rw [hz] at c1
    have es : gsum (fun g => lgm l c g (i + 1)) 10 = gsum (fun g => lgm l c g i) 10 + (c i - lgm l c (tg l i).1 i) := by
      rw [lgm_s]
      have := gsum_fu (f := fun g => lgm l c g i) (a := (tg l i).1) (v := if lgm l c (tg l i).1 i ≤ c i then c i else lgm l c (tg l i).1 i) 10 (by omega)
      have this : _ + lgm l c (tg l i).1 i = _ := this
      split at this
      · rename_i w
        rw [if_pos w]
        omega
      · rename_i w
        rw [if_neg w]
        omega
    rw [es] at c1
    refine ⟨D2, ?_, c2⟩
    rw [← c1, ← a1]
    have nl : ¬ l.length ≤ i := by omega
    simp (disch := first | (with_reducible assumption) | (simp only [oi_si, oi_sl, oi_sa, oi_sm, oi_sv, oi_sq, ol_si, ol_sl, ol_sa, ol_sm, ol_sv, ol_sq, oa_si, oa_sl, oa_sa, oa_sm, oa_sv, oa_sq, om_si, om_sl, om_sa, om_sm, om_sv, om_sq, ov_si, ov_sl, ov_sa, ov_sm, ov_sv, ov_sq, oq_si, oq_sl, oq_sa, oq_sm, oq_sv, oq_sq, Nat.reduceEqDiff, ↓reduceIte]; done) | omega | (exact ixn (by omega) (by omega)) | (exact ixl (by decide) (by decide)) | (simp only [pt_len, pl, z0, z1, z2, z3, z4, z5, z6, z7, z8, z9, z10, z11, z12]; omega)) only [↓gb_m, ↓gc_m, ↓gl_s, ↓gg_m, gb_s, gc_s, gg_t, gqm_0, gqm_1, pt_pt, sa_sa, sm_sm, si_si, qk8, qg8_0, qg8_1, qg8_2, qg8_3, qg8_4, qg8_5, qs8_5, qa8_0, qe8_0, ql8_0, qa8_1, qe8_1, ql8_1, qa8_2, qe8_2, ql8_2, qa8_3, qe8_3, ql8_3, qa8_4, qe8_4, ql8_4, oi_si, oi_sl, oi_sa, oi_sm, oi_sv, oi_sq, ol_si, ol_sl, ol_sa, ol_sm, ol_sv, ol_sq, oa_si, oa_sl, oa_sa, oa_sm, oa_sv, oa_sq, om_si, om_sl, om_sa, om_sm, om_sv, om_sq, ov_si, ov_sl, ov_sa, ov_sm, ov_sv, ov_sq, oq_si, oq_sl, oq_sa, oq_sm, oq_sv, oq_sq, Nat.reduceEqDiff, ↓reduceIte, n_add, n_addl, n_ladd, n_add1, n_mul, n_lmul, n_mull, n_sub, n_subl, n_subm, n_lt, n_le, n_eq, n_ltl, n_llt, n_lel, n_lle, n_eql, n_leq, n_m1, n_m1l, n_lt0, n_ge0, i_okc, i_okl, if_true, if_false, not_true, not_false, Nat.not_lt_zero, Nat.zero_le, d1, nl]
    rfl
theorem c_fewest (hN : 2000 ≤ N) {D : OD} (d1 : At sX8 p D h) (e1 : At sX2 cc E h) (hd : cc + 7 ≤ p ∨ p + 6 ≤ cc) (e2 : RepIC I E) (hl : l.length ≤ 20) (ho : ∀ x, x ∈ l → x.1 < iG I ∧ x.2.1 < iR I ∧ x.2.2 ≤ 99999) (hs : SrtT l) (hD : LvD l D) : ∃ D', f_X8_fewestFalse N p cc h = some (Int32.ofNat (l.length - mx I [] l), pt sX8 p D' h) ∧ LvD l D' := by
  have hgi := e2.1.2.1
  have hc : ∀ i, i < l.length → csQ I l l.length i = 1 + mxc I l (csQ I l l.length) i i := fun i hi => csQ_ok hi
  have hg : ∀ i, i < l.length → (tg l i).1 < 10 := fun i hi => by have := ho _ (List.mem_of_getElem? (tg_at hi)); omega
  have em := mx_chain hs hc hg
  have hm := mx_le I l []
  rw [em] at hm
  obtain ⟨D', a1, a2⟩ := c_liOut (N := N) hN d1.1 e1 hd e2 hl ho hc hm l.length 0 N (sa D 4 (fil 10 0 (oa D 4))) (by omega) (by omega) hD (fun j hj => by omega) (fun g hg => by
    show fil 10 0 (oa D 4) g = _
    unfold fil
    rw [if_pos hg]
    rfl)
  refine ⟨D', ?_, a2⟩
  have fl := c_fillO (N := N) (S := sX8) (p := p) (j := 4) (k := 4) (n := 10) (D := D) (h := h) (v := 0) (by omega) hN d1.1 w8 rfl
  rw [d1.2] at fl
  rw [em, ← a1]
  have s0 : gsum (fun g => lgm l (csQ I l l.length) g 0) 10 = 0 := gsum_0 10 (fun _ _ => rfl)
  rw [s0]
  unfold f_X8_fewestFalse
  rw [d1.gR (k := 4) (j := 4) rfl rfl, gb_s, fl, gb_s]
  rfl
variable {A : AA}
theorem c_liars (hN : 2000 ≤ N) (hA' : AOk A) : CAns A A (f_X11_liars N 0) (Int32.ofNat (liarS A)) := by
  intro h q
  obtain ⟨b, mk, q⟩ := q
  obtain ⟨D, d1, d2, d3⟩ := q.sigh
  obtain ⟨E, e1, e2⟩ := q.innR
  have sl := hA'.2.1.2.2.2.1
  have sb := hA'.2.1.2.2.2.2.1
  have sL := srt_len (sS (aS A))
  have cb := cu_lt b
  obtain ⟨D', a1, a2⟩ := c_fewest (N := N) (l := srtT (sS (aS A))) hN d1 e1 (Or.inr (by omega)) e2 (by omega) (fun x hx => sb x ((srt_mem _ x).mp hx)) (srt_srt _) ⟨by rw [sL]; exact d2, d3⟩
  have p1 := q.2.2.2.2.2.2.1.p8 (l := sS (aS A)) (D := D') ⟨_, d1.p2, by rw [a2.1, sL], a2.2⟩
  have p1 : RSt (aI A) (aS A) 7 (pt sX8 16 D' h) ∧ Fr (fun x => 16 ≤ x ∧ x < 22) h (pt sX8 16 D' h) := p1
  have q2 := q.st7 (S := aS A) (p1.2.up (fun x hx => by omega)) p1.1
  have q2 : RC A b mk (pt sX8 16 D' h) := q2
  refine ⟨_, ?_, ⟨b, mk, q2⟩, p1.2.nmd (fun x hx => by omega)⟩
  rw [liar_mx hA', mx_srt, ← sL]
  unfold f_X11_liars
  rw [q.stt, gb_s, q.e9.2.2.2.2.2.1, gb_s, q.cur, gb_s, d1.is rfl, gg_t, a1, gc_s]
end CLiar

