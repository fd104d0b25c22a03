/-! The component: the inn's numbers; what a rule gives -/
def cCd (c : Cd) : Int32 := if c.1 = 1 then Int32.ofNat c.2 else if c.1 = 2 then Int32.ofNat (10000 + c.2) else if c.1 = 3 then 10008 else if c.1 = 4 then 10013 else if c.1 = 5 then 10014 else if c.1 = 6 then 10015 else if c.1 = 7 then 10011 else if c.1 = 8 then 10012 else if c.1 = 9 then 10009 else 10010
/-- the codes as the component has them -/
def RepCo (I : IA) (E : OD) : Prop := ∃ en : Nat → Nat, (∀ k, k ≤ iK I → oa E 10 k = Int32.ofNat (en k) ∧ en k ≤ 1000) ∧ ∀ k, k < iK I → en k + (iCd I k).length = en (k + 1) ∧ ∀ (j : Nat) (c : Cd), (iCd I k)[j]? = some c → oa E 9 (en k + j) = cCd c
/-- the inn as the component has it -/
def RepIC (I : IA) (E : OD) : Prop := IOk I ∧ oi E 0 = Int32.ofNat (iR I) ∧ oi E 1 = Int32.ofNat (iG I) ∧ oi E 2 = Int32.ofNat (iK I) ∧ oi E 3 = Int32.ofNat (msk (fun g => decide (iBa I g = 1)) (iG I)) ∧ oi E 4 = Int32.ofNat (msk (fun g => decide (iIl I g = 1)) (iG I)) ∧ (∀ r, r < iR I → oa E 5 r = Int32.ofNat (iFl I r) ∧ oa E 6 r = Int32.ofNat (iSt I r)) ∧ (∀ g, g < iG I → oa E 7 g = Int32.ofNat (iTr I g)) ∧ RepCo I E
theorem gabs_n {a b : Nat} (ha : a < 1000000000) (hb : b < 1000000000) : gabs (Int32.ofNat a - Int32.ofNat b) = Int32.ofNat (nd a b) := by
  have h3 : (Int32.ofNat a).toInt = a := i_ok (by omega)
  have h4 : (Int32.ofNat b).toInt = b := i_ok (by omega)
  have h5 : (Int32.ofNat (nd a b)).toInt = nd a b := i_ok (by unfold nd; omega)
  have h6 : nd a b = (a - b) + (b - a) := rfl
  unfold gabs
  split
  · rename_i h7
    simp only [i_le, i_eq, i_sub, h3, h4, h5, Int32.reduceToInt, Int.bmod] at *
    omega
  · rename_i h7
    simp only [i_le, i_eq, i_sub, h3, h4, h5, Int32.reduceToInt, Int.bmod] at *
    omega
theorem eO_q {a : Option Nat} (ha : ∀ r, a = some r → r < 1000) : (eO a).toInt = (pI a : Int) - 1 := by
  cases a with
  | none => rfl
  | some r =>
    have := ha r rfl
    rw [eO_s, i_ok (by omega)]
    show _ = ((r + 1 : Nat) : Int) - 1
    omega
theorem gabs_o {a b : Option Nat} (ha : ∀ r, a = some r → r < 1000) (hb : ∀ r, b = some r → r < 1000) : gabs (eO a - eO b) = Int32.ofNat (nd (pI a) (pI b)) := by
  have h3 := eO_q ha
  have h4 := eO_q hb
  have p1 : pI a ≤ 1000 := by
    cases a with
    | none => exact Nat.zero_le _
    | some r => have := ha r rfl; show r + 1 ≤ 1000; omega
  have p2 : pI b ≤ 1000 := by
    cases b with
    | none => exact Nat.zero_le _
    | some r => have := hb r rfl; show r + 1 ≤ 1000; omega
  have h5 : (Int32.ofNat (nd (pI a) (pI b))).toInt = nd (pI a) (pI b) := i_ok (by unfold nd; omega)
  have h6 : nd (pI a) (pI b) = (pI a - pI b) + (pI b - pI a) := rfl
  unfold gabs
  split
  · rename_i h7
    simp only [i_le, i_eq, i_sub, h3, h4, h5, Int32.reduceToInt, Int.bmod] at *
    omega
  · rename_i h7
    simp only [i_le, i_eq, i_sub, h3, h4, h5, Int32.reduceToInt, Int.bmod] at *
    omega
section CInn
variable {N q : Nat} {E : OD} {h : PH} {I : IA}
theorem c_bitOf {x g : Int32} : f_X11_bitOf N x g h = some ((x >>> (g &&& 31)) &&& 1, h) := rfl
theorem c_bit {p : Nat → Bool} {n g : Nat} (hg : g < 31) : f_X11_bitOf N (Int32.ofNat (msk p n)) (Int32.ofNat g) h = some (eB (decide (g < n) && p g), h) := by
  rw [c_bitOf, msk_in p hg]
theorem c_floorOf (hE : At sX2 q E h) (hI : RepIC I E) {a : Option Nat} (ha : ∀ r, a = some r → r < iR I) : f_X2_floorOf N q (eO a) h = some (Int32.ofNat (flO I a), h) := by
  unfold f_X2_floorOf f_X2_floorOf_21 f_X2_floorOf_22
  cases a with
  | none => rfl
  | some r =>
    have h1 := ha r rfl
    have h2 := hI.1.1
    rw [eO_s, if_neg (by rw [n_lt0 (by omega)]; exact id), hE.gI (k := 0) rfl rfl, gb_s, hI.2.1, if_neg (by rw [n_le (by omega) (by omega)]; omega), hE.gR (k := 5) rfl rfl, gb_s, hE.aI (j := 0) rfl (ixn (by omega) (by omega)), gb_s, i_okc (by omega), (hI.2.2.2.2.2.2.1 r h1).1]
    rfl
theorem c_floors (hE : At sX2 q E h) (hI : RepIC I E) {a b : Option Nat} (ha : ∀ r, a = some r → r < iR I) (hb : ∀ r, b = some r → r < iR I) : f_X2_floorsBetween N q (eO a) (eO b) h = some (Int32.ofNat (flD I a b), h) := by
  unfold f_X2_floorsBetween
  have h1 := flO_le hI.1 ha
  have h2 := flO_le hI.1 hb
  rw [hE.is rfl, gg_t, c_floorOf hE hI ha, gc_s, hE.is rfl, gg_t, c_floorOf hE hI hb, gc_s, gabs_n (by omega) (by omega)]
  rfl
theorem c_steps (hE : At sX2 q E h) (hI : RepIC I E) {a b : Option Nat} (ha : ∀ r, a = some r → r < iR I) (hb : ∀ r, b = some r → r < iR I) : f_X2_stepsBetween N q (eO a) (eO b) h = some (Int32.ofNat (stD I a b), h) := by
  unfold f_X2_stepsBetween
  have h1 := hI.1.1
  rw [hE.is rfl, gg_t, c_floors hE hI ha hb, gc_s, gabs_o (fun r hr => by have := ha r hr; omega) (fun r hr => by have := hb r hr; omega), n_lmul, n_add]
  rfl
theorem c_minutes (hE : At sX2 q E h) (hI : RepIC I E) {g : Nat} (hg : g < iG I) {a b : Option Nat} (ha : ∀ r, a = some r → r < iR I) (hb : ∀ r, b = some r → r < iR I) : f_X2_minutesNeeded N q (Int32.ofNat g) (eO a) (eO b) h = some (Int32.ofNat (miD I g a b), h) := by
  unfold f_X2_minutesNeeded
  have h1 := hI.1.2.1
  have h2 := (hI.1.2.2.2.2.1 g hg).1
  rw [hE.is rfl, gg_t, c_floors hE hI ha hb, gc_s, hE.gR (k := 7) rfl rfl, gb_s, hE.aI (j := 2) rfl (ixn (by omega) (by omega)), gb_s, i_okc (by omega), hI.2.2.2.2.2.2.2.1 g hg, n_div _ (by omega), n_lmul, n_ladd, n_add]
  rfl
theorem c_walk (hE : At sX2 q E h) (hI : RepIC I E) {a b : Nat} (ha : a < iR I) (hb : b < iR I) : f_X2_walkBetween N q (Int32.ofNat a) (Int32.ofNat b) h = some (Int32.ofNat (wkD I a b), h) := by
  unfold f_X2_walkBetween
  have h1 := hI.1.1
  have fl := c_floors (N := N) hE hI (a := some a) (b := some b) (fun r hr => by cases hr; exact ha) (fun r hr => by cases hr; exact hb)
  rw [eO_s, eO_s] at fl
  rw [hE.is rfl, gg_t, fl, gc_s, gabs_n (by omega) (by omega), n_lmul, n_add]
  rfl
theorem c_bath (hI : RepIC I E) {g : Nat} (hg : g < iG I) : f_X11_bitOf N (oi E 3) (Int32.ofNat g) h = some (Int32.ofNat (iBa I g), h) := by
  have h1 := hI.1.2.1
  have h2 := (hI.1.2.2.2.2.1 g hg).2.1
  rw [hI.2.2.2.2.1, c_bit (by omega), decide_eq_true hg, Bool.true_and]
  have : iBa I g = 0 ∨ iBa I g = 1 := by omega
  rcases this with z | z <;> rw [z] <;> rfl
theorem c_ill (hI : RepIC I E) {g : Nat} (hg : g < iG I) : f_X11_bitOf N (oi E 4) (Int32.ofNat g) h = some (Int32.ofNat (iIl I g), h) := by
  have h1 := hI.1.2.1
  have h2 := (hI.1.2.2.2.2.1 g hg).2.2
  rw [hI.2.2.2.2.2.1, c_bit (by omega), decide_eq_true hg, Bool.true_and]
  have : iIl I g = 0 ∨ iIl I g = 1 := by omega
  rcases this with z | z <;> rw [z] <;> rfl
end CInn
section CRule
variable {N m : Nat} {h : PH}
theorem c_push (hF : m + 3 ≤ h.length) {K : OD} {st : List Int32} (hl : oi K 1 = Int32.ofNat st.length) (hs : st.length < 32) (hp : Pil (oa K 0) st) (x : Int32) : ∃ K', f_X7_push N m x (pt sX7 m K h) = some (pt sX7 m K' h) ∧ oi K' 1 = Int32.ofNat (x :: st).length ∧ Pil (oa K' 0) (x :: st) ∧ oa K' 2 = oa K 2 := by
  unfold f_X7_push f_X7_push_29
  refine ⟨si (sa K 0 (upd (oa K 0) st.length x)) 1 (Int32.ofNat (st.length + 1)), ?_, ?_, ?_, ?_⟩
  · have c : ((32 : Int32) ≤ Int32.ofNat st.length) = False := nleF (a := 32) (by omega) (by omega) (by omega)
    simp (disch := first | (with_reducible assumption) | (simp only [oi_si, oi_sl, oi_sa, oi_sm, oi_sv, oi_sq, ol_si, ol_sl, ol_sa, ol_sm, ol_sv, ol_sq, oa_si, oa_sl, oa_sa, oa_sm, oa_sv, oa_sq, om_si, om_sl, om_sa, om_sm, om_sv, om_sq, ov_si, ov_sl, ov_sa, ov_sm, ov_sv, ov_sq, oq_si, oq_sl, oq_sa, oq_sm, oq_sv, oq_sq, Nat.reduceEqDiff, ↓reduceIte]; done) | omega | (exact ixn (by omega) (by omega)) | (exact ixl (by decide) (by decide)) | (simp only [pt_len, pl, z0, z1, z2, z3, z4, z5, z6, z7, z8, z9, z10, z11, z12]; omega)) only [↓gb_m, ↓gc_m, ↓gl_s, ↓gg_m, gb_s, gc_s, gg_t, gqm_0, gqm_1, pt_pt, sa_sa, sm_sm, si_si, qk7, qg7_0, qg7_1, qs7_1, qg7_2, qa7_0, qe7_0, ql7_0, qa7_2, qe7_2, ql7_2, oi_si, oi_sl, oi_sa, oi_sm, oi_sv, oi_sq, ol_si, ol_sl, ol_sa, ol_sm, ol_sv, ol_sq, oa_si, oa_sl, oa_sa, oa_sm, oa_sv, oa_sq, om_si, om_sl, om_sa, om_sm, om_sv, om_sq, ov_si, ov_sl, ov_sa, ov_sm, ov_sv, ov_sq, oq_si, oq_sl, oq_sa, oq_sm, oq_sv, oq_sq, Nat.reduceEqDiff, ↓reduceIte, n_add, n_addl, n_ladd, n_add1, n_mul, n_lmul, n_mull, n_sub, n_subl, n_subm, n_lt, n_le, n_eq, n_ltl, n_llt, n_lel, n_lle, n_eql, n_leq, n_m1, n_m1l, n_lt0, n_ge0, i_okc, i_okl, if_true, if_false, not_true, not_false, Nat.not_lt_zero, Nat.zero_le, hl, c, gnar_0]
  · rw [oi_si, if_pos rfl]
    rfl
  · rw [oa_si, oa_sa, if_pos rfl]
    exact ⟨upd_eq rfl, Pil_upd hp (Nat.le_refl _)⟩
  · rw [oa_si, oa_sa, if_neg (by decide)]
theorem c_pop (hF : m + 3 ≤ h.length) {K : OD} {st : List Int32} {x : Int32} (hl : oi K 1 = Int32.ofNat (x :: st).length) (hs : st.length < 32) (hp : Pil (oa K 0) (x :: st)) : f_X7_pop N m (pt sX7 m K h) = some (x, pt sX7 m (si K 1 (Int32.ofNat st.length)) h) := by
  have hl : oi K 1 = Int32.ofNat (st.length + 1) := hl
  have c : (Int32.ofNat (st.length + 1) = 0) = False := neqF (b := 0) (by omega) (by omega) (by omega)
  unfold f_X7_pop
  simp (disch := first | (with_reducible assumption) | (simp only [oi_si, oi_sl, oi_sa, oi_sm, oi_sv, oi_sq, ol_si, ol_sl, ol_sa, ol_sm, ol_sv, ol_sq, oa_si, oa_sl, oa_sa, oa_sm, oa_sv, oa_sq, om_si, om_sl, om_sa, om_sm, om_sv, om_sq, ov_si, ov_sl, ov_sa, ov_sm, ov_sv, ov_sq, oq_si, oq_sl, oq_sa, oq_sm, oq_sv, oq_sq, Nat.reduceEqDiff, ↓reduceIte]; done) | omega | (exact ixn (by omega) (by omega)) | (exact ixl (by decide) (by decide)) | (simp only [pt_len, pl, z0, z1, z2, z3, z4, z5, z6, z7, z8, z9, z10, z11, z12]; omega)) only [↓gb_m, ↓gc_m, ↓gl_s, ↓gg_m, gb_s, gc_s, gg_t, gqm_0, gqm_1, pt_pt, sa_sa, sm_sm, si_si, qk7, qg7_0, qg7_1, qs7_1, qg7_2, qa7_0, qe7_0, ql7_0, qa7_2, qe7_2, ql7_2, oi_si, oi_sl, oi_sa, oi_sm, oi_sv, oi_sq, ol_si, ol_sl, ol_sa, ol_sm, ol_sv, ol_sq, oa_si, oa_sl, oa_sa, oa_sm, oa_sv, oa_sq, om_si, om_sl, om_sa, om_sm, om_sv, om_sq, ov_si, ov_sl, ov_sa, ov_sm, ov_sv, ov_sq, oq_si, oq_sl, oq_sa, oq_sm, oq_sv, oq_sq, Nat.reduceEqDiff, ↓reduceIte, n_add, n_addl, n_ladd, n_add1, n_mul, n_lmul, n_mull, n_sub, n_subl, n_subm, n_lt, n_le, n_eq, n_ltl, n_llt, n_lel, n_lle, n_eql, n_leq, n_m1, n_m1l, n_lt0, n_ge0, i_okc, i_okl, if_true, if_false, not_true, not_false, Nat.not_lt_zero, Nat.zero_le, hl, c, Nat.add_sub_cancel, hp.1]
theorem c_oneIf (x : Int32) : f_X7_oneIf N x h = some (if x = 0 then 0 else 1, h) := by
  unfold f_X7_oneIf f_X7_oneIf_9
  split <;> rfl
theorem c_joined {c : Nat} (h1 : 4 ≤ c) (h2 : c ≤ 10) (a b : Int32) : f_X7_joined N (cCd (c, 0)) a b h = some (bothS c a b, h) := by
  unfold f_X7_joined bothS
  have hc : c = 4 ∨ c = 5 ∨ c = 6 ∨ c = 7 ∨ c = 8 ∨ c = 9 ∨ c = 10 := by omega
  rcases hc with rfl | rfl | rfl | rfl | rfl | rfl | rfl
  · rfl
  · rfl
  · rfl
  · have e : cCd (7, 0) = 10011 := rfl
    rw [e, if_neg (by decide), if_neg (by decide), if_pos rfl]
    unfold f_X7_joined_84
    by_cases q : a < b
    · rw [if_neg (by rw [i_lt] at q; rw [i_le]; omega), c_oneIf]
      show some ((1 : Int32), h) = some (oneS (a < b), h)
      rw [oneS_t q]
    · rw [if_pos (by rw [i_lt] at q; rw [i_le]; omega), c_oneIf]
      show some ((0 : Int32), h) = some (oneS (a < b), h)
      rw [oneS_f q]
  · have e : cCd (8, 0) = 10012 := rfl
    rw [e, if_neg (by decide), if_neg (by decide), if_neg (by decide), if_pos rfl]
    unfold f_X7_joined_98
    by_cases q : a = b
    · rw [if_pos q, c_oneIf]
      show some ((1 : Int32), h) = some (oneS (a = b), h)
      rw [oneS_t q]
    · rw [if_neg q, c_oneIf]
      show some ((0 : Int32), h) = some (oneS (a = b), h)
      rw [oneS_f q]
  · have e : cCd (9, 0) = 10009 := rfl
    rw [e, if_pos rfl]
    unfold f_X7_joined_52 f_X7_joined_53
    by_cases q : a = 0
    · rw [if_pos q, c_oneIf]
      show some ((0 : Int32), h) = some (oneS (a ≠ 0 ∧ b ≠ 0), h)
      rw [oneS_f (fun z => z.1 q)]
    · rw [if_neg q]
      by_cases q' : b = 0
      · rw [if_pos q', c_oneIf]
        show some ((0 : Int32), h) = some (oneS (a ≠ 0 ∧ b ≠ 0), h)
        rw [oneS_f (fun z => z.2 q')]
      · rw [if_neg q', c_oneIf]
        show some ((1 : Int32), h) = some (oneS (a ≠ 0 ∧ b ≠ 0), h)
        rw [oneS_t ⟨q, q'⟩]
  · have e : cCd (10, 0) = 10010 := rfl
    rw [e, if_neg (by decide), if_pos rfl]
    unfold f_X7_joined_65 f_X7_joined_70
    by_cases q : a = 0
    · rw [if_pos q]
      by_cases q' : b = 0
      · rw [if_pos q', c_oneIf]
        show some ((0 : Int32), h) = some (oneS (a ≠ 0 ∨ b ≠ 0), h)
        rw [oneS_f (by rintro (z | z); exact z q; exact z q')]
      · rw [if_neg q', c_oneIf]
        show some ((1 : Int32), h) = some (oneS (a ≠ 0 ∨ b ≠ 0), h)
        rw [oneS_t (Or.inr q')]
    · rw [if_neg q, c_oneIf]
      show some ((1 : Int32), h) = some (oneS (a ≠ 0 ∨ b ≠ 0), h)
      rw [oneS_t (Or.inl q)]
theorem cCd_op {c : Cd} (h1 : 4 ≤ c.1) : cCd c = cCd (c.1, 0) := by
  have n1 : ¬ c.1 = 1 := by omega
  have n2 : ¬ c.1 = 2 := by omega
  unfold cCd
  simp only [if_neg n1, if_neg n2]
theorem cCd_ge {c : Nat} (h1 : 4 ≤ c) (h2 : c ≤ 10) : ((10000 : Int32) ≤ cCd (c, 0)) = True ∧ ((10008 : Int32) ≤ cCd (c, 0)) = True ∧ (cCd (c, 0) = 10008) = False := by
  have hc : c = 4 ∨ c = 5 ∨ c = 6 ∨ c = 7 ∨ c = 8 ∨ c = 9 ∨ c = 10 := by omega
  rcases hc with rfl | rfl | rfl | rfl | rfl | rfl | rfl <;> exact ⟨eq_true (by decide), eq_true (by decide), eq_false (by decide)⟩
/-- one code -/
theorem c_take (hF : m + 3 ≤ h.length) {K : OD} {st : List Int32} {fs : Nat → Int32} {c : Cd} {d' : Nat} (hd : depS st.length c = some d') (hl : oi K 1 = Int32.ofNat st.length) (hs : st.length ≤ 32) (hp : Pil (oa K 0) st) (hf : ∀ k, k < 8 → oa K 2 k = fs k) : ∃ K', f_X7_take N m (cCd c) (pt sX7 m K h) = some (pt sX7 m K' h) ∧ oi K' 1 = Int32.ofNat (stepS fs st c).length ∧ Pil (oa K' 0) (stepS fs st c) ∧ oa K' 2 = oa K 2 ∧ (stepS fs st c).length = d' ∧ d' ≤ 32 := by
  unfold f_X7_take f_X7_take_88 stepS
  rcases dep_spec hd with ⟨h1, h2, h3⟩ | ⟨h1, h2, h3⟩ | ⟨h1, h2, h3, h4⟩
  · rcases h1 with ⟨h1, h5⟩ | ⟨h1, h5⟩
    · obtain ⟨K', a1, a2, a3, a4⟩ := c_push (N := N) hF hl h2 hp (Int32.ofNat c.2)
      rw [if_pos h1]
      refine ⟨K', ?_, a2, a3, a4, by rw [List.length_cons]; omega, by omega⟩
      have e : cCd c = Int32.ofNat c.2 := by unfold cCd; rw [if_pos h1]
      have c1 : ((10000 : Int32) ≤ Int32.ofNat c.2) = False := nleF (a := 10000) (by omega) (by omega) (by omega)
      simp (disch := first | (with_reducible assumption) | (simp only [oi_si, oi_sl, oi_sa, oi_sm, oi_sv, oi_sq, ol_si, ol_sl, ol_sa, ol_sm, ol_sv, ol_sq, oa_si, oa_sl, oa_sa, oa_sm, oa_sv, oa_sq, om_si, om_sl, om_sa, om_sm, om_sv, om_sq, ov_si, ov_sl, ov_sa, ov_sm, ov_sv, ov_sq, oq_si, oq_sl, oq_sa, oq_sm, oq_sv, oq_sq, Nat.reduceEqDiff, ↓reduceIte]; done) | omega | (exact ixn (by omega) (by omega)) | (exact ixl (by decide) (by decide)) | (simp only [pt_len, pl, z0, z1, z2, z3, z4, z5, z6, z7, z8, z9, z10, z11, z12]; omega)) only [↓gb_m, ↓gc_m, ↓gl_s, ↓gg_m, gb_s, gc_s, gg_t, gqm_0, gqm_1, pt_pt, sa_sa, sm_sm, si_si, qk7, qg7_0, qg7_1, qs7_1, qg7_2, qa7_0, qe7_0, ql7_0, qa7_2, qe7_2, ql7_2, oi_si, oi_sl, oi_sa, oi_sm, oi_sv, oi_sq, ol_si, ol_sl, ol_sa, ol_sm, ol_sv, ol_sq, oa_si, oa_sl, oa_sa, oa_sm, oa_sv, oa_sq, om_si, om_sl, om_sa, om_sm, om_sv, om_sq, ov_si, ov_sl, ov_sa, ov_sm, ov_sv, ov_sq, oq_si, oq_sl, oq_sa, oq_sm, oq_sv, oq_sq, Nat.reduceEqDiff, ↓reduceIte, n_add, n_addl, n_ladd, n_add1, n_mul, n_lmul, n_mull, n_sub, n_subl, n_subm, n_lt, n_le, n_eq, n_ltl, n_llt, n_lel, n_lle, n_eql, n_leq, n_m1, n_m1l, n_lt0, n_ge0, i_okc, i_okl, if_true, if_false, not_true, not_false, Nat.not_lt_zero, Nat.zero_le, e, c1, a1]
    · obtain ⟨K', a1, a2, a3, a4⟩ := c_push (N := N) hF hl h2 hp (fs c.2)
      have n1 : ¬ c.1 = 1 := by omega
      rw [if_neg n1, if_pos h1]
      refine ⟨K', ?_, a2, a3, a4, by rw [List.length_cons]; omega, by omega⟩
      have e : cCd c = Int32.ofNat (10000 + c.2) := by unfold cCd; rw [if_neg (by omega), if_pos h1]
      have c1 : ((10000 : Int32) ≤ Int32.ofNat (10000 + c.2)) = True := nleT (a := 10000) (by omega) (by omega) (by omega)
      have c2 : ((10008 : Int32) ≤ Int32.ofNat (10000 + c.2)) = False := nleF (a := 10008) (by omega) (by omega) (by omega)
      have hf0 := hf c.2 h5
      simp (disch := first | (with_reducible assumption) | (simp only [oi_si, oi_sl, oi_sa, oi_sm, oi_sv, oi_sq, ol_si, ol_sl, ol_sa, ol_sm, ol_sv, ol_sq, oa_si, oa_sl, oa_sa, oa_sm, oa_sv, oa_sq, om_si, om_sl, om_sa, om_sm, om_sv, om_sq, ov_si, ov_sl, ov_sa, ov_sm, ov_sv, ov_sq, oq_si, oq_sl, oq_sa, oq_sm, oq_sv, oq_sq, Nat.reduceEqDiff, ↓reduceIte]; done) | omega | (exact ixn (by omega) (by omega)) | (exact ixl (by decide) (by decide)) | (simp only [pt_len, pl, z0, z1, z2, z3, z4, z5, z6, z7, z8, z9, z10, z11, z12]; omega)) only [↓gb_m, ↓gc_m, ↓gl_s, ↓gg_m, gb_s, gc_s, gg_t, gqm_0, gqm_1, pt_pt, sa_sa, sm_sm, si_si, qk7, qg7_0, qg7_1, qs7_1, qg7_2, qa7_0, qe7_0, ql7_0, qa7_2, qe7_2, ql7_2, oi_si, oi_sl, oi_sa, oi_sm, oi_sv, oi_sq, ol_si, ol_sl, ol_sa, ol_sm, ol_sv, ol_sq, oa_si, oa_sl, oa_sa, oa_sm, oa_sv, oa_sq, om_si, om_sl, om_sa, om_sm, om_sv, om_sq, ov_si, ov_sl, ov_sa, ov_sm, ov_sv, ov_sq, oq_si, oq_sl, oq_sa, oq_sm, oq_sv, oq_sq, Nat.reduceEqDiff, ↓reduceIte, n_add, n_addl, n_ladd, n_add1, n_mul, n_lmul, n_mull, n_sub, n_subl, n_subm, n_lt, n_le, n_eq, n_ltl, n_llt, n_lel, n_lle, n_eql, n_leq, n_m1, n_m1l, n_lt0, n_ge0, i_okc, i_okl, if_true, if_false, not_true, not_false, Nat.not_lt_zero, Nat.zero_le, e, c1, c2, Nat.add_sub_cancel_left, hf0, a1]
  · match st, hl, hs, hp, h2, h3, hd with
    | x :: st, hl, hs, hp, _, h3, _ =>
      rw [List.length_cons] at hs
      have pp := c_pop (N := N) hF hl (by omega) hp
      obtain ⟨K', a1, a2, a3, a4⟩ := c_push (N := N) hF (K := si K 1 (Int32.ofNat st.length)) (st := st) (by rw [oi_si, if_pos rfl]) (by omega) hp.2 (oneS (x = 0))
      have n1 : ¬ c.1 = 1 := by omega
      have n2 : ¬ c.1 = 2 := by omega
      rw [if_neg n1, if_neg n2, if_pos h1]
      refine ⟨K', ?_, a2, a3, a4, by rw [List.length_cons] at h3 ⊢; omega, by rw [List.length_cons] at h3; omega⟩
      have e : cCd c = 10008 := by unfold cCd; rw [if_neg (by omega), if_neg (by omega), if_pos h1]
      have c1 : ((10000 : Int32) ≤ 10008) = True := eq_true (by decide)
      have c2 : ((10008 : Int32) ≤ 10008) = True := eq_true (by decide)
      unfold f_X7_take_59 f_X7_take_88
      have o1 : (if (1 : Int32) = 0 then (0 : Int32) else 1) = 1 := by decide
      have o0 : (if (0 : Int32) = 0 then (0 : Int32) else 1) = 0 := by decide
      by_cases q : x = 0
      · rw [oneS_t q] at a1
        simp (disch := first | (with_reducible assumption) | (simp only [oi_si, oi_sl, oi_sa, oi_sm, oi_sv, oi_sq, ol_si, ol_sl, ol_sa, ol_sm, ol_sv, ol_sq, oa_si, oa_sl, oa_sa, oa_sm, oa_sv, oa_sq, om_si, om_sl, om_sa, om_sm, om_sv, om_sq, ov_si, ov_sl, ov_sa, ov_sm, ov_sv, ov_sq, oq_si, oq_sl, oq_sa, oq_sm, oq_sv, oq_sq, Nat.reduceEqDiff, ↓reduceIte]; done) | omega | (exact ixn (by omega) (by omega)) | (exact ixl (by decide) (by decide)) | (simp only [pt_len, pl, z0, z1, z2, z3, z4, z5, z6, z7, z8, z9, z10, z11, z12]; omega)) only [↓gb_m, ↓gc_m, ↓gl_s, ↓gg_m, gb_s, gc_s, gg_t, gqm_0, gqm_1, pt_pt, sa_sa, sm_sm, si_si, qk7, qg7_0, qg7_1, qs7_1, qg7_2, qa7_0, qe7_0, ql7_0, qa7_2, qe7_2, ql7_2, oi_si, oi_sl, oi_sa, oi_sm, oi_sv, oi_sq, ol_si, ol_sl, ol_sa, ol_sm, ol_sv, ol_sq, oa_si, oa_sl, oa_sa, oa_sm, oa_sv, oa_sq, om_si, om_sl, om_sa, om_sm, om_sv, om_sq, ov_si, ov_sl, ov_sa, ov_sm, ov_sv, ov_sq, oq_si, oq_sl, oq_sa, oq_sm, oq_sv, oq_sq, Nat.reduceEqDiff, ↓reduceIte, n_add, n_addl, n_ladd, n_add1, n_mul, n_lmul, n_mull, n_sub, n_subl, n_subm, n_lt, n_le, n_eq, n_ltl, n_llt, n_lel, n_lle, n_eql, n_leq, n_m1, n_m1l, n_lt0, n_ge0, i_okc, i_okl, if_true, if_false, not_true, not_false, Nat.not_lt_zero, Nat.zero_le, e, c1, c2, pp, q, c_oneIf, o1, a1]
      · rw [oneS_f q] at a1
        simp (disch := first | (with_reducible assumption) | (simp only [oi_si, oi_sl, oi_sa, oi_sm, oi_sv, oi_sq, ol_si, ol_sl, ol_sa, ol_sm, ol_sv, ol_sq, oa_si, oa_sl, oa_sa, oa_sm, oa_sv, oa_sq, om_si, om_sl, om_sa, om_sm, om_sv, om_sq, ov_si, ov_sl, ov_sa, ov_sm, ov_sv, ov_sq, oq_si, oq_sl, oq_sa, oq_sm, oq_sv, oq_sq, Nat.reduceEqDiff, ↓reduceIte]; done) | omega | (exact ixn (by omega) (by omega)) | (exact ixl (by decide) (by decide)) | (simp only [pt_len, pl, z0, z1, z2, z3, z4, z5, z6, z7, z8, z9, z10, z11, z12]; omega)) only [↓gb_m, ↓gc_m, ↓gl_s, ↓gg_m, gb_s, gc_s, gg_t, gqm_0, gqm_1, pt_pt, sa_sa, sm_sm, si_si, qk7, qg7_0, qg7_1, qs7_1, qg7_2, qa7_0, qe7_0, ql7_0, qa7_2, qe7_2, ql7_2, oi_si, oi_sl, oi_sa, oi_sm, oi_sv, oi_sq, ol_si, ol_sl, ol_sa, ol_sm, ol_sv, ol_sq, oa_si, oa_sl, oa_sa, oa_sm, oa_sv, oa_sq, om_si, om_sl, om_sa, om_sm, om_sv, om_sq, ov_si, ov_sl, ov_sa, ov_sm, ov_sv, ov_sq, oq_si, oq_sl, oq_sa, oq_sm, oq_sv, oq_sq, Nat.reduceEqDiff, ↓reduceIte, n_add, n_addl, n_ladd, n_add1, n_mul, n_lmul, n_mull, n_sub, n_subl, n_subm, n_lt, n_le, n_eq, n_ltl, n_llt, n_lel, n_lle, n_eql, n_leq, n_m1, n_m1l, n_lt0, n_ge0, i_okc, i_okl, if_true, if_false, not_true, not_false, Nat.not_lt_zero, Nat.zero_le, e, c1, c2, pp, q, c_oneIf, o0, a1]
  · match st, hl, hs, hp, h3, h4, hd with
    | b :: a :: st, hl, hs, hp, _, h4, _ =>
      simp only [List.length_cons] at hs h4
      have pp1 := c_pop (N := N) hF hl (by rw [List.length_cons]; omega) hp
      have pp2 := c_pop (N := N) hF (K := si K 1 (Int32.ofNat (a :: st).length)) (st := st) (x := a) (by rw [oi_si, if_pos rfl]) (by omega) hp.2
      obtain ⟨K', a1, a2, a3, a4⟩ := c_push (N := N) hF (K := si (si K 1 (Int32.ofNat (a :: st).length)) 1 (Int32.ofNat st.length)) (st := st) (by rw [oi_si, if_pos rfl]) (by omega) hp.2.2 (bothS c.1 a b)
      have n1 : ¬ c.1 = 1 := by omega
      have n2 : ¬ c.1 = 2 := by omega
      have n3 : ¬ c.1 = 3 := by omega
      rw [if_neg n1, if_neg n2, if_neg n3]
      refine ⟨K', ?_, a2, a3, a4, by rw [List.length_cons]; omega, by omega⟩
      obtain ⟨g1, g2, g3⟩ := cCd_ge h1 h2
      have jj := c_joined (N := N) (h := pt sX7 m (si (si K 1 (Int32.ofNat (a :: st).length)) 1 (Int32.ofNat st.length)) h) h1 h2 a b
      rw [cCd_op h1]
      rw [si_si] at pp2 jj a1
      simp (disch := first | (with_reducible assumption) | (simp only [oi_si, oi_sl, oi_sa, oi_sm, oi_sv, oi_sq, ol_si, ol_sl, ol_sa, ol_sm, ol_sv, ol_sq, oa_si, oa_sl, oa_sa, oa_sm, oa_sv, oa_sq, om_si, om_sl, om_sa, om_sm, om_sv, om_sq, ov_si, ov_sl, ov_sa, ov_sm, ov_sv, ov_sq, oq_si, oq_sl, oq_sa, oq_sm, oq_sv, oq_sq, Nat.reduceEqDiff, ↓reduceIte]; done) | omega | (exact ixn (by omega) (by omega)) | (exact ixl (by decide) (by decide)) | (simp only [pt_len, pl, z0, z1, z2, z3, z4, z5, z6, z7, z8, z9, z10, z11, z12]; omega)) only [↓gb_m, ↓gc_m, ↓gl_s, ↓gg_m, gb_s, gc_s, gg_t, gqm_0, gqm_1, pt_pt, sa_sa, sm_sm, si_si, qk7, qg7_0, qg7_1, qs7_1, qg7_2, qa7_0, qe7_0, ql7_0, qa7_2, qe7_2, ql7_2, oi_si, oi_sl, oi_sa, oi_sm, oi_sv, oi_sq, ol_si, ol_sl, ol_sa, ol_sm, ol_sv, ol_sq, oa_si, oa_sl, oa_sa, oa_sm, oa_sv, oa_sq, om_si, om_sl, om_sa, om_sm, om_sv, om_sq, ov_si, ov_sl, ov_sa, ov_sm, ov_sv, ov_sq, oq_si, oq_sl, oq_sa, oq_sm, oq_sv, oq_sq, Nat.reduceEqDiff, ↓reduceIte, n_add, n_addl, n_ladd, n_add1, n_mul, n_lmul, n_mull, n_sub, n_subl, n_subm, n_lt, n_le, n_eq, n_ltl, n_llt, n_lel, n_lle, n_eql, n_leq, n_m1, n_m1l, n_lt0, n_ge0, i_okc, i_okl, if_true, if_false, not_true, not_false, Nat.not_lt_zero, Nat.zero_le, g1, g2, g3, pp1, pp2, jj, a1]
/-- all codes of a rule -/
theorem c_value129 (hF : m + 3 ≤ h.length) {q : Nat} {E : OD} (hE : At sX2 q E h) (hmq : m + 3 ≤ q ∨ q + 7 ≤ m) {rule en : Nat} (hr : rule < 4) (hen : oa E 10 (rule + 1) = Int32.ofNat en) (hen2 : en ≤ 1000) {fs : Nat → Int32} : ∀ (cs : List Cd) (i : Nat) (st : List Int32) (K : OD) (n : Nat), i + cs.length = en → (∀ (j : Nat) (c : Cd), cs[j]? = some c → oa E 9 (i + j) = cCd c) → depL st.length cs = some 1 → oi K 1 = Int32.ofNat st.length → Pil (oa K 0) st → (∀ k, k < 8 → oa K 2 k = fs k) → cs.length < n → st.length ≤ 32 →
    ∃ K', gi (fun zk zs => f_X7_value_129 N zk zs.1 zs.2.1 zs.2.2.1 zs.2.2.2.1 zs.2.2.2.2) n (m, q, Int32.ofNat rule, Int32.ofNat i, pt sX7 m K h) = some ((runS fs st cs).headD 0, pt sX7 m K' h) := by
  intro cs
  induction cs with
  | nil =>
    intro i st K n hi hc hd hl hp hf hn hs
    have hi : i = en := by simpa using hi
    subst hi
    have hd : some st.length = some 1 := hd
    match st, hd, hp, hl with
    | [x], _, hp, hl =>
      have pp := c_pop (N := N) hF hl (by decide) hp
      refine ⟨si K 1 (Int32.ofNat ([] : List Int32).length), ?_⟩
      · obtain ⟨n, rfl⟩ : ∃ m, n = m + 1 := ⟨n - 1, by simp at hn; omega⟩
        rw [gi_1]
        generalize hz : gi _ n = zk
        dsimp only
        unfold f_X7_value_129
        have hE' : At sX2 q E (pt sX7 m K h) := hE.out (by simp only [z2, z7]; omega)
        have cl : (Int32.ofNat i ≤ Int32.ofNat i) = True := by
          rw [n_le (by omega) (by omega)]
          exact eq_true (Nat.le_refl _)
        rw [hE'.gR (k := 10) rfl rfl, gb_s, n_add1, hE'.aI (j := 5) rfl (ixn (by omega) (by omega)), gb_s, i_okc (by omega), hen]
        simp (disch := first | (with_reducible assumption) | (simp only [oi_si, oi_sl, oi_sa, oi_sm, oi_sv, oi_sq, ol_si, ol_sl, ol_sa, ol_sm, ol_sv, ol_sq, oa_si, oa_sl, oa_sa, oa_sm, oa_sv, oa_sq, om_si, om_sl, om_sa, om_sm, om_sv, om_sq, ov_si, ov_sl, ov_sa, ov_sm, ov_sv, ov_sq, oq_si, oq_sl, oq_sa, oq_sm, oq_sv, oq_sq, Nat.reduceEqDiff, ↓reduceIte]; done) | omega | (exact ixn (by omega) (by omega)) | (exact ixl (by decide) (by decide)) | (simp only [pt_len, pl, z0, z1, z2, z3, z4, z5, z6, z7, z8, z9, z10, z11, z12]; omega)) only [↓gb_m, ↓gc_m, ↓gl_s, ↓gg_m, gb_s, gc_s, gg_t, gqm_0, gqm_1, pt_pt, sa_sa, sm_sm, si_si, qk7, qg7_0, qg7_1, qs7_1, qg7_2, qa7_0, qe7_0, ql7_0, qa7_2, qe7_2, ql7_2, oi_si, oi_sl, oi_sa, oi_sm, oi_sv, oi_sq, ol_si, ol_sl, ol_sa, ol_sm, ol_sv, ol_sq, oa_si, oa_sl, oa_sa, oa_sm, oa_sv, oa_sq, om_si, om_sl, om_sa, om_sm, om_sv, om_sq, ov_si, ov_sl, ov_sa, ov_sm, ov_sv, ov_sq, oq_si, oq_sl, oq_sa, oq_sm, oq_sv, oq_sq, Nat.reduceEqDiff, ↓reduceIte, n_add, n_addl, n_ladd, n_add1, n_mul, n_lmul, n_mull, n_sub, n_subl, n_subm, n_lt, n_le, n_eq, n_ltl, n_llt, n_lel, n_lle, n_eql, n_leq, n_m1, n_m1l, n_lt0, n_ge0, i_okc, i_okl, if_true, if_false, not_true, not_false, Nat.not_lt_zero, Nat.zero_le, cl, pp]
        rfl
  | cons c cs ih =>
    intro i st K n hi hc hd hl hp hf hn hs
    rw [List.length_cons] at hi hn
    have hc0 := hc 0 c rfl
    rw [Nat.add_zero] at hc0
    obtain ⟨d', hd1, hd2⟩ : ∃ d', depS st.length c = some d' ∧ depL d' cs = some 1 := by
      unfold depL at hd
      cases h1 : depS st.length c with
      | none => rw [h1] at hd; cases hd
      | some d' => rw [h1] at hd; exact ⟨d', rfl, hd⟩
    obtain ⟨K1, a1, a2, a3, a4, a5, a6⟩ := c_take (N := N) hF hd1 hl hs hp hf
    obtain ⟨K', b1⟩ := ih (i + 1) (stepS fs st c) K1 (n - 1) (by omega) (fun j x hx => by
      have := hc (j + 1) x hx
      rw [show i + (j + 1) = i + 1 + j by omega] at this
      exact this) (by rw [a5]; exact hd2) a2 a3 (fun k hk => by rw [a4]; exact hf k hk) (by omega) (by omega)
    refine ⟨K', ?_⟩
    obtain ⟨n, rfl⟩ : ∃ m, n = m + 1 := ⟨n - 1, by omega⟩
    rw [gi_1]
    rw [show n + 1 - 1 = n by omega] at b1
    generalize hz : gi _ n = zk at b1 ⊢
    dsimp only
    unfold f_X7_value_129
    have hE' : At sX2 q E (pt sX7 m K h) := hE.out (by simp only [z2, z7]; omega)
    have cl : (Int32.ofNat en ≤ Int32.ofNat i) = False := by
      rw [n_le (by omega) (by omega)]
      exact eq_false (by omega)
    rw [hE'.gR (k := 10) rfl rfl, gb_s, n_add1, hE'.aI (j := 5) rfl (ixn (by omega) (by omega)), gb_s, i_okc (by omega), hen, if_neg (of_eq_false cl), hE'.gR (k := 9) rfl rfl, gb_s, hE'.aI (j := 4) rfl (ixn (by omega) (by omega)), gb_s, i_okc (by omega), hc0, qk7 hF, gg_t, a1, gb_s, gl_s, n_add1, b1]
    rfl
theorem c_setFact (hF : m + 3 ≤ h.length) {K : OD} {k : Nat} (hk : k < 8) (v : Int32) : f_X7_setFact N m (Int32.ofNat (10000 + k)) v (pt sX7 m K h) = some (pt sX7 m (sa K 2 (upd (oa K 2) k v)) h) := by
  unfold f_X7_setFact
  simp (disch := first | (with_reducible assumption) | (simp only [oi_si, oi_sl, oi_sa, oi_sm, oi_sv, oi_sq, ol_si, ol_sl, ol_sa, ol_sm, ol_sv, ol_sq, oa_si, oa_sl, oa_sa, oa_sm, oa_sv, oa_sq, om_si, om_sl, om_sa, om_sm, om_sv, om_sq, ov_si, ov_sl, ov_sa, ov_sm, ov_sv, ov_sq, oq_si, oq_sl, oq_sa, oq_sm, oq_sv, oq_sq, Nat.reduceEqDiff, ↓reduceIte]; done) | omega | (exact ixn (by omega) (by omega)) | (exact ixl (by decide) (by decide)) | (simp only [pt_len, pl, z0, z1, z2, z3, z4, z5, z6, z7, z8, z9, z10, z11, z12]; omega)) only [↓gb_m, ↓gc_m, ↓gl_s, ↓gg_m, gb_s, gc_s, gg_t, gqm_0, gqm_1, pt_pt, sa_sa, sm_sm, si_si, qk7, qg7_0, qg7_1, qs7_1, qg7_2, qa7_0, qe7_0, ql7_0, qa7_2, qe7_2, ql7_2, oi_si, oi_sl, oi_sa, oi_sm, oi_sv, oi_sq, ol_si, ol_sl, ol_sa, ol_sm, ol_sv, ol_sq, oa_si, oa_sl, oa_sa, oa_sm, oa_sv, oa_sq, om_si, om_sl, om_sa, om_sm, om_sv, om_sq, ov_si, ov_sl, ov_sa, ov_sm, ov_sv, ov_sq, oq_si, oq_sl, oq_sa, oq_sm, oq_sv, oq_sq, Nat.reduceEqDiff, ↓reduceIte, n_add, n_addl, n_ladd, n_add1, n_mul, n_lmul, n_mull, n_sub, n_subl, n_subm, n_lt, n_le, n_eq, n_ltl, n_llt, n_lel, n_lle, n_eql, n_leq, n_m1, n_m1l, n_lt0, n_ge0, i_okc, i_okl, if_true, if_false, not_true, not_false, Nat.not_lt_zero, Nat.zero_le, Nat.add_sub_cancel_left, gnar_0]
/-- what a rule gives: the machine's own cells change, no others -/
theorem c_value (hN : 2000 ≤ N) {K : OD} (hK : At sX7 m K h) {p q : Nat} {E D : OD} {I : IA} (hE : At sX2 q E h) (hI : RepIC I E) (hD : At sX1 p D h) (hmq : m + 3 ≤ q ∨ q + 7 ≤ m) (hmp : m + 3 ≤ p ∨ p + 5 ≤ m) {rule g here gap mv : Nat} (hr : rule < iK I) (hg : g < iG I) (hh : here < iR I) (hgap : gap < iR I) (h1 : oa D 1 g = Int32.ofNat here) (h2 : oa D 2 g = Int32.ofNat mv) :
    ∃ K', f_X7_value N m q (Int32.ofNat rule) p (Int32.ofNat g) (Int32.ofNat gap) h = some ((runS (factS I mv g here gap) [] (iCd I rule)).headD 0, pt sX7 m K' h) := by
  have b1 := hI.1.1
  have b2 := hI.1.2.1
  have b3 := hI.1.2.2.1
  obtain ⟨en, e1, e2⟩ := hI.2.2.2.2.2.2.2.2
  obtain ⟨e3, e4⟩ := e2 rule hr
  have e5 := e1 rule (by omega)
  have e6 := e1 (rule + 1) (by omega)
  have hF := hK.1
  have hF : m + 3 ≤ h.length := hF
  have oE : ∀ K', At sX2 q E (pt sX7 m K' h) := fun K' => hE.out (by simp only [z2, z7]; omega)
  have oD : ∀ K', At sX1 p D (pt sX7 m K' h) := fun K' => hD.out (by simp only [z1, z7]; omega)
  have fl := fun K' => c_floors (N := N) (oE K') hI (a := some here) (b := some gap) (fun r hr => by cases hr; exact hh) (fun r hr => by cases hr; exact hgap)
  have is7 : ∀ K', gIs 7 m (pt sX7 m K' h) = true := fun K' => (At_pt (D := K') hF).is rfl
  have s0 := fun K' v => c_setFact (N := N) hF (K := K') (k := 0) (by omega) v
  have s1 := fun K' v => c_setFact (N := N) hF (K := K') (k := 1) (by omega) v
  have s2 := fun K' v => c_setFact (N := N) hF (K := K') (k := 2) (by omega) v
  have s3 := fun K' v => c_setFact (N := N) hF (K := K') (k := 3) (by omega) v
  have s4 := fun K' v => c_setFact (N := N) hF (K := K') (k := 4) (by omega) v
  have s5 := fun K' v => c_setFact (N := N) hF (K := K') (k := 5) (by omega) v
  have s6 := fun K' v => c_setFact (N := N) hF (K := K') (k := 6) (by omega) v
  have s7 := fun K' v => c_setFact (N := N) hF (K := K') (k := 7) (by omega) v
  have s0 : ∀ K' v, f_X7_setFact N m 10000 v (pt sX7 m K' h) = _ := s0
  have s1 : ∀ K' v, f_X7_setFact N m 10001 v (pt sX7 m K' h) = _ := s1
  have s2 : ∀ K' v, f_X7_setFact N m 10002 v (pt sX7 m K' h) = _ := s2
  have s3 : ∀ K' v, f_X7_setFact N m 10003 v (pt sX7 m K' h) = _ := s3
  have s4 : ∀ K' v, f_X7_setFact N m 10004 v (pt sX7 m K' h) = _ := s4
  have s5 : ∀ K' v, f_X7_setFact N m 10005 v (pt sX7 m K' h) = _ := s5
  have s6 : ∀ K' v, f_X7_setFact N m 10006 v (pt sX7 m K' h) = _ := s6
  have s7 : ∀ K' v, f_X7_setFact N m 10007 v (pt sX7 m K' h) = _ := s7
  have x1 : h = pt sX7 m K h := hK.2.symm
  have r3 : ∀ K', gfI 2 3 q (pt sX7 m K' h) = some (oi E 3) := fun K' => (oE K').gI rfl rfl
  have r4 : ∀ K', gfI 2 4 q (pt sX7 m K' h) = some (oi E 4) := fun K' => (oE K').gI rfl rfl
  have i2 : ∀ K', gIs 2 q (pt sX7 m K' h) = true := fun K' => (oE K').is rfl
  have bb := fun K' => c_bath (N := N) (h := pt sX7 m K' h) hI hg
  have bi := fun K' => c_ill (N := N) (h := pt sX7 m K' h) hI hg
  have t7 := hI.2.2.2.2.2.2.2.1 g hg
  have t6 := (hI.2.2.2.2.2.2.1 gap hgap).2
  have rr1 : ∀ K', gfR 1 1 p (pt sX7 m K' h) = some (pl p 1) := fun K' => (oD K').gR rfl rfl
  have rr2 : ∀ K', gfR 1 2 p (pt sX7 m K' h) = some (pl p 2) := fun K' => (oD K').gR rfl rfl
  have ra1 : ∀ K', arI 0 (pl p 1) (Int32.ofNat g) (pt sX7 m K' h) = some (Int32.ofNat here) := fun K' => by
    rw [(oD K').aI (j := 1) rfl (ixn (by omega) (by omega)), i_okc (by omega), h1]
  have ra2 : ∀ K', arI 0 (pl p 2) (Int32.ofNat g) (pt sX7 m K' h) = some (Int32.ofNat mv) := fun K' => by
    rw [(oD K').aI (j := 2) rfl (ixn (by omega) (by omega)), i_okc (by omega), h2]
  have qr7 : ∀ K', gfR 2 7 q (pt sX7 m K' h) = some (pl q 2) := fun K' => (oE K').gR rfl rfl
  have qr6 : ∀ K', gfR 2 6 q (pt sX7 m K' h) = some (pl q 1) := fun K' => (oE K').gR rfl rfl
  have qr10 : ∀ K', gfR 2 10 q (pt sX7 m K' h) = some (pl q 5) := fun K' => (oE K').gR rfl rfl
  have qa7 : ∀ K', arI 0 (pl q 2) (Int32.ofNat g) (pt sX7 m K' h) = some (Int32.ofNat (iTr I g)) := fun K' => by
    rw [(oE K').aI (j := 2) rfl (ixn (by omega) (by omega)), i_okc (by omega), t7]
  have qa6 : ∀ K', arI 0 (pl q 1) (Int32.ofNat gap) (pt sX7 m K' h) = some (Int32.ofNat (iSt I gap)) := fun K' => by
    rw [(oE K').aI (j := 1) rfl (ixn (by omega) (by omega)), i_okc (by omega), t6]
  have qa10 : ∀ K', arI 0 (pl q 5) (Int32.ofNat rule) (pt sX7 m K' h) = some (Int32.ofNat (en rule)) := fun K' => by
    rw [(oE K').aI (j := 5) rfl (ixn (by omega) (by omega)), i_okc (by omega), e5.1]
  rw [eO_s, eO_s] at fl
  unfold f_X7_value
  have hps : ∀ K', pfV 7 1 m (.int 0) (pt sX7 m K' h) = some (pt sX7 m (si K' 1 0) h) := fun K' => pfI_pt hF rfl rfl
  conv => enter [1, K', 1]; rw [x1]
  simp only [rr1, rr2, ra1, ra2, qr7, qr6, qr10, qa7, qa6, qa10, r3, r4, i2, is7, bb, bi, s0, s1, s2, s3, s4, s5, s6, s7, fl, hps, gb_s, gc_s, gg_t]
  have dep := (hI.1.2.2.2.2.2 rule hr).1
  have len := (hI.1.2.2.2.2.2 rule hr).2
  generalize hKK : si _ 1 0 = KK
  obtain ⟨K', lp⟩ := c_value129 (N := N) hF hE hmq (rule := rule) (by omega) e6.1 e6.2 (fs := factS I mv g here gap) (iCd I rule) (en rule) [] KK N e3 e4 dep (by rw [← hKK, oi_si, if_pos rfl]; rfl) trivial (by
    intro k hk
    rw [← hKK]
    simp only [oi_si, oi_sl, oi_sa, oi_sm, oi_sv, oi_sq, ol_si, ol_sl, ol_sa, ol_sm, ol_sv, ol_sq, oa_si, oa_sl, oa_sa, oa_sm, oa_sv, oa_sq, om_si, om_sl, om_sa, om_sm, om_sv, om_sq, ov_si, ov_sl, ov_sa, ov_sm, ov_sv, ov_sq, oq_si, oq_sl, oq_sa, oq_sm, oq_sv, oq_sq, Nat.reduceEqDiff, ↓reduceIte]
    unfold factS
    have hc : k = 0 ∨ k = 1 ∨ k = 2 ∨ k = 3 ∨ k = 4 ∨ k = 5 ∨ k = 6 ∨ k = 7 := by omega
    rcases hc with rfl | rfl | rfl | rfl | rfl | rfl | rfl | rfl <;> simp only [upd_at, Nat.reduceEqDiff, reduceIte]) (by omega) (by decide)
  exact ⟨K', lp⟩
end CRule

