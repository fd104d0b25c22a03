/-! The component: order -/
theorem flR_s (p : Nat → Bool) (n : Nat) : flR p (n + 1) = flR p n ++ (if p n = true then [n] else []) := by
  unfold flR
  rw [List.range_succ, List.filter_append]
  congr 1
  cases h : p n with
  | true => simp [h]
  | false => simp [h]
theorem flR_mono (p : Nat → Bool) {k : Nat} : ∀ n, k ≤ n → (flR p k).length ≤ (flR p n).length := by
  intro n
  induction n with
  | zero => intro h; have : k = 0 := by omega
            subst this; exact Nat.le_refl _
  | succ n ih =>
    intro h
    by_cases z : k = n + 1
    · subst z; exact Nat.le_refl _
    · have := ih (by omega)
      rw [flR_s, List.length_append]
      omega
theorem flR_ext {p r : Nat → Bool} : ∀ n, (∀ k, k < n → p k = r k) → flR p n = flR r n := by
  intro n
  induction n with
  | zero => intro _; rfl
  | succ n ih =>
    intro h
    rw [flR_s, flR_s, ih (fun k hk => h k (by omega)), h n (by omega)]
theorem msk_up (p : Nat → Bool) {n m : Nat} (h : n ≤ m) : msk p n = msk (fun k => decide (k < n) && p k) m := by
  apply Nat.eq_of_testBit_eq
  intro k
  rw [msk_bit, msk_bit]
  by_cases z : k < n
  · rw [decide_eq_true z, decide_eq_true (show k < m by omega)]
    rfl
  · rw [decide_eq_false z, Bool.false_and, Bool.and_false]
def RwA (f : Nat → Int32) (row : List Nat) : Prop := ∀ (i y : Nat), row[i]? = some y → f i = Int32.ofNat y
section COrder
variable {N : Nat} {A : AA}
theorem c_addArr (hN : 2000 ≤ N) {h : PH} (hl : 64 < h.length) (g7 : ∀ f, gfR 11 7 0 (pa 0 7 64 f h) = some 64) {p : Nat → Bool} {row : List Nat} (hr : row.length + (flR p 10).length ≤ 7) {f : Nat → Int32} (hf : RwA f row) : ∃ f', f_X11_addArrivals N 0 (Int32.ofNat (msk p 10)) (Int32.ofNat row.length) (pa 0 7 64 f h) = some (Int32.ofNat (row ++ flR p 10).length, pa 0 7 64 f' h) ∧ RwA f' (row ++ flR p 10) := by
  have lp : ∀ d k mm f, k + d = 10 → d < mm → RwA f (row ++ flR p k) → ∃ f', gi (fun zk zs => f_X11_addArrivals_5 N zk zs.1 zs.2.1 zs.2.2.1 zs.2.2.2.1 zs.2.2.2.2) mm (0, Int32.ofNat (msk p 10), Int32.ofNat (row ++ flR p k).length, Int32.ofNat k, pa 0 7 64 f h) = some (Int32.ofNat (row ++ flR p 10).length, pa 0 7 64 f' h) ∧ RwA f' (row ++ flR p 10) := by
    intro d
    induction d with
    | zero =>
      intro k mm f hk hm hf
      have : k = 10 := by omega
      subst this
      obtain ⟨mm, rfl⟩ : ∃ i, mm = i + 1 := ⟨mm - 1, by omega⟩
      refine ⟨f, ?_, hf⟩
      rw [gi_1]
      dsimp only
      unfold f_X11_addArrivals_5
      have t : ((10 : Int32) ≤ Int32.ofNat 10) = True := nleT (a := 10) (Nat.le_refl _) (by omega) (by omega)
      rw [if_pos (of_eq_true t)]
    | succ d ih =>
      intro k mm f hk hm hf
      obtain ⟨mm, rfl⟩ : ∃ i, mm = i + 1 := ⟨mm - 1, by omega⟩
      have t : ((10 : Int32) ≤ Int32.ofNat k) = False := nleF (a := 10) (by omega) (by omega) (by omega)
      have bt := c_bit (N := N) (h := pa 0 7 64 f h) (p := p) (n := 10) (g := k) (by omega)
      rw [decide_eq_true (show k < 10 by omega), Bool.true_and] at bt
      have fs := flR_s p k
      have mo := flR_mono p (k := k + 1) 10 (by omega)
      rw [gi_1]
      generalize hz : gi (fun zk zs => f_X11_addArrivals_5 N zk zs.1 zs.2.1 zs.2.2.1 zs.2.2.2.1 zs.2.2.2.2) mm = zk
      dsimp only
      unfold f_X11_addArrivals_5 f_X11_addArrivals_39
      cases hp : p k with
      | true =>
        rw [hp, if_pos rfl] at fs
        rw [fs, List.length_append] at mo
        have mo : (flR p k).length + 1 ≤ (flR p 10).length := mo
        have ll : (row ++ flR p k).length = row.length + (flR p k).length := List.length_append
        obtain ⟨f', a1, a2⟩ := ih (k + 1) mm (upd f (row ++ flR p k).length (Int32.ofNat k)) (by omega) (by omega) (by
          intro i y hy
          rw [fs, ← List.append_assoc] at hy
          rw [upd_at]
          rcases Nat.lt_or_ge i (row ++ flR p k).length with z | z
          · rw [List.getElem?_append_left z] at hy
            rw [if_neg (by omega)]
            exact hf i y hy
          · have := ln_of hy
            rw [List.length_append] at this
            have this : i < (row ++ flR p k).length + 1 := this
            have e : i = (row ++ flR p k).length := by omega
            subst e
            rw [List.getElem?_append_right (Nat.le_refl _), Nat.sub_self] at hy
            cases hy
            rw [if_pos rfl])
        have e2 : (row ++ flR p (k + 1)).length = (row ++ flR p k).length + 1 := by
          rw [fs, ← List.append_assoc, List.length_append]
          rfl
        rw [hz, e2] at a1
        refine ⟨f', ?_, a2⟩
        have t7 : ((7 : Int32) ≤ Int32.ofNat (row ++ flR p k).length) = False := nleF (a := 7) (by omega) (by omega) (by omega)
        rw [hp] at bt
        rw [if_neg (of_eq_false t), bt, gc_s, if_pos eBT1, if_neg (of_eq_false t7), g7, gb_s, (Ar.p2 hl).eI (ixn (by omega) (by omega)), gb_s, gl_s, gl_s, n_add1, n_add1, i_okc (by omega), pa_pa, gnar_0, ← a1]
      | false =>
        rw [hp, if_neg (by simp), List.append_nil] at fs
        obtain ⟨f', a1, a2⟩ := ih (k + 1) mm f (by omega) (by omega) (by rw [fs]; exact hf)
        rw [hz, fs] at a1
        refine ⟨f', ?_, a2⟩
        rw [hp] at bt
        have e01 : ¬ eB false = 1 := by decide
        rw [if_neg (of_eq_false t), bt, gc_s, if_neg e01, gl_s, n_add1, ← a1]
  obtain ⟨f', a1, a2⟩ := lp 10 0 N f (by omega) (by omega) (by
    have : flR p 0 = [] := rfl
    rw [this, List.append_nil]
    exact hf)
  refine ⟨f', ?_, a2⟩
  rw [← a1]
  have : flR p 0 = [] := rfl
  rw [this, List.append_nil]
  rfl
theorem RC.turn {b : Bool} {mk : Nat → Option Nat} {h : PH} (q : RC A b mk h) (f : Nat → Int32) : RC A b mk (pa 0 7 64 f h) := by
  obtain ⟨a1, a2, a3, a4, a5, a6, a7, a8, a9, a10, a11, a12, a13⟩ := q
  have q : RC A b mk h := ⟨a1, a2, a3, a4, a5, a6, a7, a8, a9, a10, a11, a12, a13⟩
  have fr : Fr (fun x => x = 64) h (pa 0 7 64 f h) := Fr.pa rfl
  exact q.sc (fr.up (fun x hx => by omega)) (a4.fr fr (fun x _ _ => by omega)) (a9.fr fr (fun x _ _ => by omega)) (a10.fr fr (fun x _ _ => by omega)) ⟨f, Ar.p2 (by omega)⟩ (a12.fr fr (by omega))
theorem RC.trial {b : Bool} {mk : Nat → Option Nat} {h : PH} (q : RC A b mk h) (D : OD) : RC A b mk (pt sX1 59 D h) := by
  obtain ⟨a1, a2, a3, a4, a5, a6, a7, a8, a9, a10, a11, a12, a13⟩ := q
  have q : RC A b mk h := ⟨a1, a2, a3, a4, a5, a6, a7, a8, a9, a10, a11, a12, a13⟩
  have fr : Fr (fun x => 59 ≤ x ∧ x < 64) h (pt sX1 59 D h) := Fr.of (fun x q1 q2 => ⟨q1, q2⟩)
  exact q.sc (fr.up (fun x hx => by omega)) (a4.fr fr (fun x _ _ => by omega)) (a9.fr fr (fun x _ _ => by omega)) ⟨D, At_pt (by simp only [z1]; omega)⟩ (a11.fr fr (by omega)) (a12.fr fr (by omega))
theorem c_plan (hN : 2000 ≤ N) (hA' : AOk A) {b : Bool} {mk : Nat → Option Nat} {h : PH} (qq : RC A b mk h) {q : Nat} (hq : q < iG (aI A)) : ∃ f, f_X11_planArrivals N 0 (Int32.ofNat q) h = some (pa 0 7 64 f h) ∧ RwA f (plR (aI A) (sB (aS A)) q) := by
  have hs := hA'.2.1.2.2.2.2.2.2.2.2.2
  have b7 := hA'.2.1.2.2.2.2.2.2.2.2.1
  have hG := hA'.1.2.1
  have ql := qq.2.2.2.2.2.2.2.2.2.2.2.2
  have hb10 : ∀ g, g ∈ sB (aS A) → g < 10 := fun g hg => by have := (hs.2 g hg).1; omega
  have hba : ∀ g, g < iG (aI A) → iBa (aI A) g ≤ 1 := fun g hg => (hA'.1.2.2.2.2.1 g hg).2.1
  have Rl := pl_len (I := aI A) (q := q) hs.1 hb10
  obtain ⟨f0, aT0⟩ := qq.2.2.2.2.2.2.2.2.2.2.1
  have rd : ∀ f, gIs 11 0 (pa 0 7 64 f h) = true ∧ gfR 11 7 0 (pa 0 7 64 f h) = some 64 ∧ gfR 11 3 0 (pa 0 7 64 f h) = some 7 ∧ gfI 9 7 7 (pa 0 7 64 f h) = some (Int32.ofNat (msk (fun g => (sB (aS A)).contains g) 10)) ∧ gfR 11 9 0 (pa 0 7 64 f h) = some (cu b) ∧ gfI 2 3 (cu b) (pa 0 7 64 f h) = some (Int32.ofNat (msk (fun k => decide (k < iG (aI A)) && decide (iBa (aI A) k = 1)) 10)) := by
    intro f
    have r := qq.turn f
    obtain ⟨E, e1, e2⟩ := r.innR
    refine ⟨r.is11, r.e11.2.2.2.2.2.2.2.2.1, r.stt, r.e9.2.2.2.2.2.2.2.2.1, r.cur, ?_⟩
    rw [e1.gI (k := 3) rfl rfl, e2.2.2.2.2.1, msk_up _ hG]
  have hself : pa 0 7 64 f0 h = h := aT0.eq
  have x3 : Int32.ofNat (msk (fun g => (sB (aS A)).contains g) 10) &&& (((1 : Int32) <<< (Int32.ofNat q &&& 31)) ^^^ -1) = Int32.ofNat (msk (fu (fun g => (sB (aS A)).contains g) q false) 10) := by
    rw [shl1 q (by omega), msk_out _ (by omega)]
  have m1 : Int32.ofNat (msk (fu (fun g => (sB (aS A)).contains g) q false) 10) &&& (Int32.ofNat (msk (fun k => decide (k < iG (aI A)) && decide (iBa (aI A) k = 1)) 10) ^^^ -1) = Int32.ofNat (msk (fl1 (aI A) (sB (aS A)) q) 10) := by
    rw [msk_andn]
    congr 1
    refine msk_ext (fun k hk => ?_)
    unfold fl1
    rw [fu_at]
    by_cases z : k = q
    · rw [if_pos z, decide_eq_true z]
      simp
    · rw [if_neg z, decide_eq_false z]
      cases hc : (sB (aS A)).contains k with
      | false => rfl
      | true =>
        have kg := (hs.2 k (List.contains_iff_mem.mp hc)).1
        have := hba k kg
        rw [decide_eq_true kg]
        by_cases w : iBa (aI A) k = 0
        · rw [w]
          rfl
        · rw [show iBa (aI A) k = 1 by omega]
          rfl
  have m2 : Int32.ofNat (msk (fu (fun g => (sB (aS A)).contains g) q false) 10) &&& Int32.ofNat (msk (fun k => decide (k < iG (aI A)) && decide (iBa (aI A) k = 1)) 10) = Int32.ofNat (msk (fl2 (aI A) (sB (aS A)) q) 10) := by
    rw [msk_and]
    congr 1
    refine msk_ext (fun k hk => ?_)
    unfold fl2
    rw [fu_at]
    by_cases z : k = q
    · rw [if_pos z, decide_eq_true z]
      simp
    · rw [if_neg z, decide_eq_false z]
      cases hc : (sB (aS A)).contains k with
      | false => rfl
      | true =>
        have kg := (hs.2 k (List.contains_iff_mem.mp hc)).1
        have := hba k kg
        rw [decide_eq_true kg]
        by_cases w : iBa (aI A) k = 0
        · rw [w]
          rfl
        · rw [show iBa (aI A) k = 1 by omega]
          rfl
  have m3 : Int32.ofNat (msk (fun g => (sB (aS A)).contains g) 10) &&& (Int32.ofNat (msk (fu (fun g => (sB (aS A)).contains g) q false) 10) ^^^ -1) = Int32.ofNat (msk (fl3 (sB (aS A)) q) 10) := by
    rw [msk_andn]
    congr 1
    refine msk_ext (fun k hk => ?_)
    unfold fl3
    rw [fu_at]
    by_cases z : k = q
    · rw [if_pos z, decide_eq_true z]
      simp
    · rw [if_neg z, decide_eq_false z]
      cases (sB (aS A)).contains k <;> rfl
  have lt : (flR (fl1 (aI A) (sB (aS A)) q) 10).length + ((flR (fl2 (aI A) (sB (aS A)) q) 10).length + (flR (fl3 (sB (aS A)) q) 10).length) ≤ 7 := by
    have e := Rl
    unfold plR at e
    rw [List.length_append, List.length_append] at e
    omega
  obtain ⟨f1, c1, d1⟩ := c_addArr (N := N) hN (h := h) (by omega) (fun f => (rd f).2.1) (p := fl1 (aI A) (sB (aS A)) q) (row := []) (by show 0 + _ ≤ _; omega) (f := f0) (fun i y hy => by cases hy)
  rw [List.nil_append] at c1 d1
  obtain ⟨f2, c2, d2⟩ := c_addArr (N := N) hN (h := h) (by omega) (fun f => (rd f).2.1) (p := fl2 (aI A) (sB (aS A)) q) (row := flR (fl1 (aI A) (sB (aS A)) q) 10) (by omega) (f := f1) d1
  obtain ⟨f3, c3, d3⟩ := c_addArr (N := N) hN (h := h) (by omega) (fun f => (rd f).2.1) (p := fl3 (sB (aS A)) q) (row := flR (fl1 (aI A) (sB (aS A)) q) 10 ++ flR (fl2 (aI A) (sB (aS A)) q) 10) (by rw [List.length_append]; omega) (f := f2) d2
  refine ⟨f3, ?_, ?_⟩
  · unfold f_X11_planArrivals
    obtain ⟨r1, r2, r3, r4, r5, r6⟩ := rd f0
    obtain ⟨s1, s2, s3, s4, s5, s6⟩ := rd f1
    obtain ⟨t1, t2, t3, t4, t5, t6⟩ := rd f2
    have c1 : f_X11_addArrivals N 0 (Int32.ofNat (msk (fl1 (aI A) (sB (aS A)) q) 10)) 0 (pa 0 7 64 f0 h) = _ := c1
    rw [hself] at r1 r3 r4 r5 r6 c1
    simp only [r3, gb_s, r4, gl_s, x3, r5, r6, r1, gg_t, m1, c1, gc_s, s5, s6, s1, m2, c2, t3, t4, t1, m3, c3]
  · unfold plR
    rw [← List.append_assoc]
    exact d3
theorem c_moves (hN : 2000 ≤ N) (hA' : AOk A) (hcap : nInS (sE (aS A)) + (sB (aS A)).length ≤ iR (aI A)) {b : Bool} {mk : Nat → Option Nat} {h : PH} (qq : RC A b mk h) {q : Nat} (hq : q < iG (aI A)) {row : List Nat} (hb : BOk A row) (hl : row.length = (sB (aS A)).length) {f : Nat → Int32} (hT : Ar 0 7 64 f h) (hf : RwA f row) (w : Bool) : ∃ D, f_X11_movesByArrivals N 0 (Int32.ofNat q) (Int32.ofNat (sB (aS A)).length) (eB w) h = some (if w then Int32.ofNat (ordP A row) else Int32.ofNat (ordM A q row), pt sX1 59 D h) := by
  have b7 := hA'.2.1.2.2.2.2.2.2.2.2.1
  have hG := hA'.1.2.1
  have f0 := hA_fit hA'
  have hc := hb.can hA' hcap (by omega)
  have ql := qq.2.2.2.2.2.2.2.2.2.2.2.2
  obtain ⟨D8, h8, r8⟩ := qq.hous
  obtain ⟨D59, h59⟩ := qq.2.2.2.2.2.2.2.2.2.1
  obtain ⟨E, e1, e2⟩ := qq.innR
  have cb := cu_lt b
  obtain ⟨D1, c1, c2⟩ := c_copy1 (N := N) h59 h8 (Or.inr (by omega))
  have g1 := c2 (aI A) (hA A) r8
  have hF : 59 + 5 ≤ h.length := by omega
  have lp : ∀ d k mm D, k + d = row.length → d < mm → RepH (aI A) (comeL (aI A) (row.take k) (hA A)) D → ∃ D', gi (fun zk zs => f_X11_movesByArrivals_21 N zk zs.1 zs.2.1 zs.2.2.1 zs.2.2.2.1 zs.2.2.2.2.1 zs.2.2.2.2.2.1 zs.2.2.2.2.2.2) mm (0, Int32.ofNat q, Int32.ofNat row.length, eB w, 8, Int32.ofNat k, pt sX1 59 D h) = some (if w then Int32.ofNat (ordP A row) else Int32.ofNat (ordM A q row), pt sX1 59 D' h) := by
    intro d
    induction d with
    | zero =>
      intro k mm D hk hm hR
      have : k = row.length := by omega
      subst this
      rw [List.take_length] at hR
      obtain ⟨mm, rfl⟩ : ∃ i, mm = i + 1 := ⟨mm - 1, by omega⟩
      have r := qq.trial D
      have up := (comeL_fit hA'.1 row _ _ _ f0 hc).2.2 q
      have k8 : At sX1 8 D8 (pt sX1 59 D h) := h8.fr (P := fun x => 59 ≤ x ∧ x < 64) (Fr.of (fun x q1 q2 => ⟨q1, q2⟩)) (fun x q1 q2 => by simp only [z1] at q2; omega)
      have k59 : At sX1 59 D (pt sX1 59 D h) := At_pt hF
      refine ⟨D, ?_⟩
      rw [gi_1]
      dsimp only
      unfold f_X11_movesByArrivals_21 f_X11_movesByArrivals_59 f_X11_movesByArrivals_96
      rw [if_pos (of_eq_true (nleT (Nat.le_refl _) (by omega) (by omega)))]
      cases w with
      | false =>
        rw [if_pos (eBf _ rfl), r.e11.2.2.2.2.2.2.2.1, gb_s, k59.gR (k := 2) rfl rfl, gb_s, k59.aI (j := 2) rfl (ixn (by omega) (by omega)), gb_s, k8.gR (k := 2) rfl rfl, gb_s, k8.aI (j := 2) rfl (ixn (by omega) (by omega)), gb_s, i_okc (by omega), hR.1.2.2.1 q (by omega), r8.1.2.2.1 q (by omega), n_sub up.1]
        rfl
      | true =>
        rw [if_neg (eBt _ rfl), r.e11.2.2.2.2.2.2.2.1, gb_s, k59.gI (k := 5) rfl rfl, gb_s, k8.gI (k := 5) rfl rfl, gb_s, hR.1.2.2.2.2.2.1, r8.1.2.2.2.2.2.1, n_sub up.2]
        rfl
    | succ d ih =>
      intro k mm D hk hm hR
      obtain ⟨mm, rfl⟩ : ∃ i, mm = i + 1 := ⟨mm - 1, by omega⟩
      obtain ⟨g, hg⟩ : ∃ g, row[k]? = some g := ⟨_, List.getElem?_eq_getElem (by omega)⟩
      have tk : row.take (k + 1) = row.take k ++ [g] := by
        rw [List.take_add_one, hg]
        rfl
      have cs : CanCome (aI A) (insS (sE (aS A))) (nInS (sE (aS A))) (row.take k ++ [g]) := by
        rw [← tk]
        exact ⟨fun x hx => hc.1 x (List.mem_of_mem_take hx), hc.2.1.sublist (List.take_sublist _ row), by have := hc.2.2; rw [List.length_take]; omega⟩
      obtain ⟨t1, t2, t3, t4⟩ := cs.sn
      obtain ⟨u1, u2, u3⟩ := comeL_fit hA'.1 _ _ _ _ f0 t1
      have r := qq.trial D
      have aT : Ar 0 7 64 f (pt sX1 59 D h) := hT.fr (P := fun x => 59 ≤ x ∧ x < 64) (Fr.of (fun x q1 q2 => ⟨q1, q2⟩)) (by omega)
      have k59 : At sX1 59 D (pt sX1 59 D h) := At_pt hF
      obtain ⟨D2, G2, s1, s2, s3⟩ := c_takeIn (N := N) (p := 59) (q := cu b) (D := D) (E := E) (G := D) (dia := none) (n := 0) hN hF e1 e2 (Or.inl (by omega)) (fun d hd => by cases hd) t2 u1.1 (fun z => by
        have this : ((row.take k).contains g || insS (sE (aS A)) g) = true := (u1.2.1 g).mp z
        rw [t3] at this
        cases this) (come_gap u1 t4) hR (fun d hd => by cases hd)
      have s1 : f_X1_takeIn N 59 (cu b) (Int32.ofNat g) none (pt sX1 59 D h) = some (pt sX1 59 D2 h) := s1
      obtain ⟨D', v1⟩ := ih (k + 1) mm D2 (by omega) (by omega) (by rw [tk, comeL_a]; exact s2)
      refine ⟨D', ?_⟩
      rw [← v1, gi_1]
      generalize hz : gi (fun zk zs => f_X11_movesByArrivals_21 N zk zs.1 zs.2.1 zs.2.2.1 zs.2.2.2.1 zs.2.2.2.2.1 zs.2.2.2.2.2.1 zs.2.2.2.2.2.2) mm = zk
      dsimp only
      unfold f_X11_movesByArrivals_21
      have n7 : ((7 : Int32) ≤ Int32.ofNat k) = False := nleF (a := 7) (by omega) (by omega) (by omega)
      rw [if_neg (of_eq_false (nleF (by omega) (by omega) (by omega))), if_neg (of_eq_false n7), r.e11.2.2.2.2.2.2.2.1, gb_s, r.cur, gb_s, r.e11.2.2.2.2.2.2.2.2.1, gb_s, aT.aI (ixn (by omega) (by omega)), gb_s, k59.is rfl, gg_t, i_okc (by omega), hf k g hg, s1, gb_s, gl_s, n_add1]
  obtain ⟨D', v1⟩ := lp row.length 0 N D1 (by omega) (by omega) (by exact g1)
  refine ⟨D', ?_⟩
  rw [← v1, hl]
  unfold f_X11_movesByArrivals
  rw [qq.stt, gb_s, qq.e9.2.2.1, gb_s, qq.e11.2.2.2.2.2.2.2.1, gb_s, h59.is rfl, gg_t, c1, gb_s]
  rfl
theorem c_order90 (hN : 2000 ≤ N) (hA' : AOk A) (hcap : nInS (sE (aS A)) + (sB (aS A)).length ≤ iR (aI A)) {b : Bool} {mk : Nat → Option Nat} {h : PH} (qq : RC A b mk h) {q v : Nat} (hq : q < iG (aI A)) (hv : v < 2 + (sB (aS A)).length) : ∃ h', f_X11_order_90 N 0 (Int32.ofNat q) (Int32.ofNat v) (Int32.ofNat (sB (aS A)).length) h = some (if Int32.ofNat v = 0 then Int32.ofNat (ordM A q (ordBest A q)) else if Int32.ofNat v = 1 then Int32.ofNat (ordP A (ordBest A q)) else Int32.ofNat ((ordBest A q).getD (v - 2) 0), h') ∧ RC A b mk h' ∧ Fr (fun x => ¬ Md x) h h' := by
  have b7 := hA'.2.1.2.2.2.2.2.2.2.2.1
  have ql := qq.2.2.2.2.2.2.2.2.2.2.2.2
  obtain ⟨o1, o2, o3, o4⟩ := ordBest_s hA' q
  obtain ⟨f, p1, p2⟩ := c_plan (N := N) hN hA' qq hq
  rw [← ordBest_pl hA' hcap hq] at p2
  have q2 := qq.turn f
  have fr1 : Fr (fun x => x = 64) h (pa 0 7 64 f h) := Fr.pa rfl
  have aT : Ar 0 7 64 f (pa 0 7 64 f h) := Ar.p2 (by omega)
  have mv := fun w => c_moves (N := N) hN hA' hcap q2 hq ⟨o3, o4⟩ o2 aT p2 w
  unfold f_X11_order_90 f_X11_order_124 f_X11_order_127
  rw [qq.is11, gg_t, p1, gb_s, q2.is11, gg_t, gg_t]
  by_cases z2' : v < 2
  · have l2 : (Int32.ofNat v < (2 : Int32)) = True := nltT (b := 2) z2' (by omega) (by omega)
    rw [if_pos (of_eq_true l2)]
    by_cases y : v = 0
    · subst y
      obtain ⟨D, d1⟩ := mv false
      have d1 : f_X11_movesByArrivals N 0 (Int32.ofNat q) (Int32.ofNat (sB (aS A)).length) 0 (pa 0 7 64 f h) = some (Int32.ofNat (ordM A q (ordBest A q)), pt sX1 59 D (pa 0 7 64 f h)) := d1
      have n1 : ¬ Int32.ofNat 0 = 1 := by decide
      have fr2 : Fr (fun x => 59 ≤ x ∧ x < 64) (pa 0 7 64 f h) (pt sX1 59 D (pa 0 7 64 f h)) := Fr.of (fun x q1 q2 => ⟨q1, q2⟩)
      refine ⟨pt sX1 59 D (pa 0 7 64 f h), ?_, q2.trial D, (fr1.nmd (fun x hx => by omega)).tr (fr2.nmd (fun x hx => by omega))⟩
      rw [if_neg n1, d1, gc_s, if_pos (show Int32.ofNat 0 = 0 from rfl)]
    · have y1 : v = 1 := by omega
      subst y1
      obtain ⟨D, d1⟩ := mv true
      have d1 : f_X11_movesByArrivals N 0 (Int32.ofNat q) (Int32.ofNat (sB (aS A)).length) 1 (pa 0 7 64 f h) = some (Int32.ofNat (ordP A (ordBest A q)), pt sX1 59 D (pa 0 7 64 f h)) := d1
      have n1 : Int32.ofNat 1 = 1 := by decide
      have n0 : ¬ Int32.ofNat 1 = 0 := by decide
      have fr2 : Fr (fun x => 59 ≤ x ∧ x < 64) (pa 0 7 64 f h) (pt sX1 59 D (pa 0 7 64 f h)) := Fr.of (fun x q1 q2 => ⟨q1, q2⟩)
      refine ⟨pt sX1 59 D (pa 0 7 64 f h), ?_, q2.trial D, (fr1.nmd (fun x hx => by omega)).tr (fr2.nmd (fun x hx => by omega))⟩
      rw [if_pos n1, d1, gc_s, if_neg n0, if_pos n1]
  · have l2 : (Int32.ofNat v < (2 : Int32)) = False := nltF (b := 2) z2' (by omega) (by omega)
    have n0 : ¬ Int32.ofNat v = 0 := of_eq_false (neqF (b := 0) (by omega) (by omega) (by omega))
    have n1 : ¬ Int32.ofNat v = 1 := of_eq_false (neqF (b := 1) (by omega) (by omega) (by omega))
    have s2 : Int32.ofNat v - 2 = Int32.ofNat (v - 2) := n_sub (b := 2) (by omega)
    have hx : (ordBest A q)[v - 2]? = some ((ordBest A q).getD (v - 2) 0) := by
      rw [List.getD_eq_getElem?_getD, List.getElem?_eq_getElem (by omega)]
      rfl
    refine ⟨pa 0 7 64 f h, ?_, q2, fr1.nmd (fun x hx => by omega)⟩
    rw [if_neg (of_eq_false l2), q2.e11.2.2.2.2.2.2.2.2.1, gb_s, s2, aT.aI (ixn (by omega) (by omega)), gb_s, i_okc (by omega), p2 _ _ hx, if_neg n0, if_neg n1]
theorem c_order (hN : 2000 ≤ N) (hA' : AOk A) (g w : Int32) : CAns A A (f_X11_order N 0 g w) (ansOrder A g w) := by
  intro h q
  obtain ⟨b, mk, q⟩ := q
  obtain ⟨D, d1, d2⟩ := q.hous
  obtain ⟨E, e1, e2⟩ := q.innR
  have b7 := hA'.2.1.2.2.2.2.2.2.2.2.1
  have b1 := hA'.1.1
  have b2 := hA'.1.2.1
  have fit := hA_fit hA'
  have bl := bk_len hA'
  have nin : nInS (sE (aS A)) ≤ iR (aI A) := by
    have := occN_le (hO (hA A)) (iR (aI A))
    rw [fit.2.2] at this
    exact this
  have bc := c_bitCountM (N := N) (p := fun g => (sB (aS A)).contains g) (h := h)
  rw [bl] at bc
  have bad : ordOk A g w = false → ∃ h', (some (-1, h) : Option (Int32 × PH)) = some (ansOrder A g w, h') ∧ RepC A h' ∧ Fr (fun x => ¬ Md x) h h' := by
    intro z
    unfold ansOrder
    rw [z]
    exact ⟨h, rfl, ⟨b, mk, q⟩, Fr.rf⟩
  have l2 : (2 : Int32) + Int32.ofNat (sB (aS A)).length = Int32.ofNat (2 + (sB (aS A)).length) := n_add 2 _
  unfold f_X11_order f_X11_order_30 f_X11_order_58
  rw [q.stt, gb_s, q.e9.2.2.2.2.2.2.2.2.1, gb_s, bc, gc_s, q.is11, gg_t, c_isGuest hA' q, gc_s]
  cases z1' : isN g (iG (aI A)) with
  | false => rw [if_pos (eBf _ rfl)]; exact bad (by unfold ordOk; rw [z1']; rfl)
  | true =>
    obtain ⟨x, hx, rfl⟩ := isN_t (by omega) z1'
    rw [if_neg (eBt _ rfl), l2]
    cases z2' : isN w (2 + (sB (aS A)).length) with
    | false =>
      have ob : ordOk A (Int32.ofNat x) w = false := by unfold ordOk; rw [z2', Bool.and_false]; rfl
      by_cases y : w < 0
      · rw [if_pos y]; exact bad ob
      · rcases isN_f z2' with u | u
        · exact absurd u y
        · rw [if_neg y, if_neg (Int32.not_lt.mpr u)]
          exact bad ob
    | true =>
      obtain ⟨v, hv, rfl⟩ := isN_t (by omega) z2'
      rw [if_neg (of_eq_false (n_lt0 (by omega))), if_pos (of_eq_true (nltT hv (by omega) (by omega)))]
      by_cases z3' : (sB (aS A)).length = 0
      · have ob : ordOk A (Int32.ofNat x) (Int32.ofNat v) = false := by
          unfold ordOk
          have : decide ((sB (aS A)).length ≠ 0) = false := decide_eq_false (fun w => w z3')
          rw [this, Bool.and_false]
          rfl
        rw [if_pos (by rw [z3']; rfl)]
        exact bad ob
      · have n3 : ¬ Int32.ofNat (sB (aS A)).length = 0 := of_eq_false (neqF (b := 0) z3' (by omega) (by omega))
        rw [if_neg n3, q.cur, gb_s, e1.gI (k := 0) rfl rfl, gb_s, e2.2.1, q.stt, gb_s, q.e9.2.2.1, gb_s, d1.is rfl, gg_t]
        unfold f_X1_guestsIn
        rw [d1.gI (k := 8) rfl rfl, gb_s, gc_s, d2.2.1, fit.2.2, n_sub nin]
        by_cases z4' : nInS (sE (aS A)) + (sB (aS A)).length ≤ iR (aI A)
        · rw [if_pos (of_eq_true (nleT (by omega) (by omega) (by omega))), q.stt, gb_s, q.e9.2.2.1, gb_s, d1.is rfl, gg_t, c_isIn d1 d2 hA'.1 (by omega), gc_s, rep_some fit]
          have go : ordOk A (Int32.ofNat x) (Int32.ofNat v) = true → ∃ h', f_X11_order_90 N 0 (Int32.ofNat x) (Int32.ofNat v) (Int32.ofNat (sB (aS A)).length) h = some (ansOrder A (Int32.ofNat x) (Int32.ofNat v), h') ∧ RepC A h' ∧ Fr (fun x => ¬ Md x) h h' := by
            intro ok
            obtain ⟨h', y1, y2, y3⟩ := c_order90 (N := N) hN hA' z4' q hx hv
            refine ⟨h', ?_, ⟨b, mk, y2⟩, y3⟩
            rw [y1]
            unfold ansOrder
            rw [ok, if_pos rfl, i_okc (by omega), i_okc (by omega)]
          have okE : ordOk A (Int32.ofNat x) (Int32.ofNat v) = ((sB (aS A)).contains x || insS (sE (aS A)) x) := by
            unfold ordOk
            rw [z1', z2', decide_eq_true z3', decide_eq_true z4', i_okc (by omega)]
            rfl
          cases z5 : insS (sE (aS A)) x with
          | true =>
            rw [if_neg (eBt _ rfl)]
            exact go (by rw [okE, z5, Bool.or_true])
          | false =>
            rw [if_pos (eBf _ rfl), q.stt, gb_s, q.e9.2.2.2.2.2.2.2.2.1, gb_s, c_bit (by omega), gc_s, decide_eq_true (show x < 10 by omega), Bool.true_and]
            cases z6 : (sB (aS A)).contains x with
            | true =>
              rw [if_neg (eBt _ rfl)]
              exact go (by rw [okE, z6]; rfl)
            | false =>
              rw [if_pos (eBf _ rfl)]
              exact bad (by rw [okE, z5, z6]; rfl)
        · have ob : ordOk A (Int32.ofNat x) (Int32.ofNat v) = false := by
            unfold ordOk
            rw [decide_eq_false z4', Bool.and_false]
            rfl
          rw [if_neg (of_eq_false (nleF (by omega) (by omega) (by omega)))]
          exact bad ob
end COrder

