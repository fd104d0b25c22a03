/-! The component: ways -/
def pgW (P : Nat → Nat) (w : Option Nat) : Nat → List Nat
  | 0 => []
  | n + 1 => if P n = 0 then pgW P w n else if w = some n then pgW P w n else pgW P w n ++ [P n]
theorem pgW_len (P : Nat → Nat) (w : Option Nat) : ∀ n, (pgW P w n).length ≤ n := by
  intro n
  induction n with
  | zero => exact Nat.le_refl _
  | succ n ih =>
    unfold pgW
    split
    · omega
    · split
      · omega
      · rw [List.length_append]; show _ + 1 ≤ _; omega
theorem pgW_lt {P : Nat → Nat} {b : Nat} (hb : ∀ g, P g < b) (w : Option Nat) : ∀ n x, x ∈ pgW P w n → x < b := by
  intro n
  induction n with
  | zero => intro x hx; cases hx
  | succ n ih =>
    intro x hx
    unfold pgW at hx
    split at hx
    · exact ih x hx
    · split at hx
      · exact ih x hx
      · rw [List.mem_append, List.mem_singleton] at hx
        rcases hx with hx | hx
        · exact ih x hx
        · rw [hx]; exact hb n
section CWays
variable {N : Nat} {h : PH} {a R : Nat} {ps : List Nat}
theorem c_place (hN : 2000 ≤ N) (ha : a < h.length) (hR : R ≤ 10) {u pg : Nat} (hu : u < 2 ^ R) (hpg : ps.getD (cn u) 0 = pg) (hp : pg < 1024) {f : Nat → Int32} (hf : ∀ s, s < 1024 → f s = Int32.ofNat (wH R ps u 0 s)) : ∃ f', f_X6_placeNext N a (Int32.ofNat u) (Int32.ofNat pg) (Int32.ofNat R) (pa 0 1024 a f h) = some (pa 0 1024 a f' h) ∧ ∀ s, s < 1024 → f' s = Int32.ofNat (wH R ps u R s) := by
  have pl : 2 ^ R ≤ 2 ^ 10 := Nat.pow_le_pow_right (by omega) hR
  have pl : 2 ^ R ≤ 1024 := pl
  have lp : ∀ n r m f, r + n = R → n < m → (∀ s, s < 1024 → f s = Int32.ofNat (wH R ps u r s)) → ∃ f', gi (fun zk zs => f_X6_placeNext_3 N zk zs.1 zs.2.1 zs.2.2.1 zs.2.2.2.1 zs.2.2.2.2.1 zs.2.2.2.2.2) m (a, Int32.ofNat u, Int32.ofNat pg, Int32.ofNat R, Int32.ofNat r, pa 0 1024 a f h) = some (pa 0 1024 a f' h) ∧ ∀ s, s < 1024 → f' s = Int32.ofNat (wH R ps u R s) := by
    intro n
    induction n with
    | zero =>
      intro r m f hr hm hf
      have : r = R := by omega
      subst this
      refine ⟨f, ?_, hf⟩
      obtain ⟨m, rfl⟩ : ∃ k, m = k + 1 := ⟨m - 1, by omega⟩
      rw [gi_1]
      generalize hz : gi _ m = zk
      dsimp only
      unfold f_X6_placeNext_3
      rw [if_pos (of_eq_true (nleT (Nat.le_refl _) (by omega) (by omega)))]
    | succ n ih =>
      intro r m f hr hm hf
      have n1 : ¬ Int32.ofNat R ≤ Int32.ofNat r := of_eq_false (nleF (by omega) (by omega) (by omega))
      have A := Ar.p2 (t := 0) (n := 1024) (f := f) ha
      have e1 : Int32.ofNat pg &&& (Int32.ofNat u ^^^ -1) = Int32.ofNat (msk (fun k => pg.testBit k && !u.testBit k) 10) := by
        rw [← msk_andn, ← msk_of (n := 10) hp, ← msk_of (n := 10) (by omega)]
      have bt := c_bit (N := N) (h := pa 0 1024 a f h) (p := fun k => pg.testBit k && !u.testBit k) (n := 10) (g := r) (by omega)
      rw [decide_eq_true (by omega), Bool.true_and] at bt
      have b1 := eB1 (pg.testBit r && !u.testBit r)
      by_cases z : (pg.testBit r && !u.testBit r) = true
      · have z' := z
        rw [Bool.and_eq_true, Bool.not_eq_true'] at z'
        obtain ⟨o1, o2, o3⟩ := or_add hu (r := r) (by omega) (by omega) z'.2
        have ix1 : ixok (Int32.ofNat (u + 2 ^ r)) 1024 := ixn (by omega) (by omega)
        have ix2 : ixok (Int32.ofNat u) 1024 := ixn (by omega) (by omega)
        obtain ⟨f', g1, g2⟩ := ih (r + 1) (m - 1) (upd f (u + 2 ^ r) (f (u + 2 ^ r) + f u)) (by omega) (by omega) (by
          intro s hs
          rw [wH_s (by omega)]
          by_cases e : s = u + 2 ^ r
          · subst e
            rw [upd_eq rfl, hf _ hs, hf u (by omega), n_add, o3, Nat.add_sub_cancel, decide_eq_true rfl, hpg, z'.1, wH_ge (by omega) (Nat.le_refl _)]
            rfl
          · rw [upd_ne e, hf s hs]
            have : (s.testBit r && decide (s - 2 ^ r = u) && (ps.getD (cn u) 0).testBit r) = false := by
              cases hb : s.testBit r with
              | false => rw [Bool.false_and, Bool.false_and]
              | true =>
                have := bit_le hb
                rw [decide_eq_false (by omega), Bool.and_false, Bool.false_and]
            rw [this]
            rfl)
        refine ⟨f', ?_, g2⟩
        obtain ⟨m, rfl⟩ : ∃ k, m = k + 1 := ⟨m - 1, by omega⟩
        rw [gi_1]
        generalize hz : gi _ m = zk
        dsimp only
        rw [show m + 1 - 1 = m by omega, hz] at g1
        unfold f_X6_placeNext_3 f_X6_placeNext_37
        have cz : eB (pg.testBit r && !u.testBit r) = 1 := by rw [b1]; exact z
        rw [if_neg n1, e1, bt, gc_s, if_pos cz, shl1 r (by omega), o1, A.aI ix1, gb_s, A.aI ix2, gb_s, A.eI ix1, gb_s, pa_pa, gl_s, n_add1, i_okc (by omega), i_okc (by omega), gnar_0]
        exact g1
      · obtain ⟨f', g1, g2⟩ := ih (r + 1) (m - 1) f (by omega) (by omega) (by
          intro s hs
          rw [wH_s (by omega), hf s hs]
          have : (s.testBit r && decide (s - 2 ^ r = u) && (ps.getD (cn u) 0).testBit r) = false := by
            cases hb : s.testBit r with
            | false => rw [Bool.false_and, Bool.false_and]
            | true =>
              by_cases e : s - 2 ^ r = u
              · have ub : u.testBit r = false := by
                  rw [← e, sb hs hb, decide_eq_false (by omega), Bool.false_and]
                rw [ub, Bool.not_false, Bool.and_true] at z
                rw [hpg, Bool.eq_false_iff.mpr z, Bool.and_false]
              · rw [decide_eq_false e, Bool.and_false, Bool.false_and]
          rw [this]
          rfl)
        refine ⟨f', ?_, g2⟩
        obtain ⟨m, rfl⟩ : ∃ k, m = k + 1 := ⟨m - 1, by omega⟩
        rw [gi_1]
        generalize hz : gi _ m = zk
        dsimp only
        rw [show m + 1 - 1 = m by omega, hz] at g1
        unfold f_X6_placeNext_3 f_X6_placeNext_37
        have cz : ¬ eB (pg.testBit r && !u.testBit r) = 1 := by rw [b1]; exact z
        rw [if_neg n1, e1, bt, gc_s, if_neg cz, gl_s, n_add1]
        exact g1
  exact lp R 0 N f (by omega) (by omega) hf
theorem c_row64 (hN : 2000 ≤ N) (ha : a < h.length) (hR : R ≤ 10) {p : Nat} {D : OD} (hD : At sX6 p D h) (hpa : a < p ∨ p + 3 ≤ a) (hK : ps.length ≤ 10) (hps : ∀ x, x ∈ ps → x < 1024) (hr : ∀ (k x : Nat), ps[k]? = some x → oa D 1 k = Int32.ofNat x) : ∀ n u m f, u + n = 2 ^ R → n < m → (∀ s, s < 1024 → f s = Int32.ofNat (wH R ps u 0 s)) → ∃ f', gi (fun zk zs => f_X6_fillRow_64 N zk zs.1 zs.2.1 zs.2.2.1 zs.2.2.2.1 zs.2.2.2.2.1 zs.2.2.2.2.2) m (p, a, Int32.ofNat R, Int32.ofNat ps.length, Int32.ofNat u, pa 0 1024 a f h) = some (Int32.ofNat ps.length, pa 0 1024 a f' h) ∧ ∀ s, s < 2 ^ R → f' s = Int32.ofNat (wF R ps s) := by
  have pl : 2 ^ R ≤ 2 ^ 10 := Nat.pow_le_pow_right (by omega) hR
  have pl : 2 ^ R ≤ 1024 := pl
  have sh := shl1 R (by omega)
  intro n
  induction n with
  | zero =>
    intro u m f hu hm hf
    have : u = 2 ^ R := by omega
    subst this
    refine ⟨f, ?_, fun s hs => ?_⟩
    · skip
      obtain ⟨m, rfl⟩ : ∃ k, m = k + 1 := ⟨m - 1, by omega⟩
      rw [gi_1]
      generalize hz : gi _ m = zk
      dsimp only
      unfold f_X6_fillRow_64
      rw [sh, if_pos (of_eq_true (nleT (Nat.le_refl _) (by omega) (by omega)))]
    · rw [hf s (by omega), wH_ge (by omega) (by omega)]
  | succ n ih =>
    intro u m f hu hm hf
    have n1 : ¬ Int32.ofNat (2 ^ R) ≤ Int32.ofNat u := of_eq_false (nleF (by omega) (by omega) (by omega))
    have A := Ar.p2 (t := 0) (n := 1024) (f := f) ha
    have ix2 : ixok (Int32.ofNat u) 1024 := ixn (by omega) (by omega)
    have fu0 : f u = Int32.ofNat (wF R ps u) := by rw [hf u (by omega), wH_ge (by omega) (Nat.le_refl _)]
    have wl := wF_le hR ps (s := u) (by omega)
    have cnl : cn u ≤ 10 := cntB_le _ _
    have bc := c_bitCount (N := N) (h := pa 0 1024 a f h) (n := u) (by omega)
    have bc : f_J6_bitCount_0f7a4 N (Int32.ofNat u) (pa 0 1024 a f h) = some (Int32.ofNat (cn u), pa 0 1024 a f h) := bc
    have skip : (wF R ps u = 0 ∨ ps.getD (cn u) 0 = 0) → ∀ s, s < 1024 → f s = Int32.ofNat (wH R ps (u + 1) 0 s) := fun z s hs => by
      rw [hf s hs, wH_sk z, wH_R]
    have go : ∀ f1, (∀ s, s < 1024 → f1 s = Int32.ofNat (wH R ps (u + 1) 0 s)) → ∃ f', gi (fun zk zs => f_X6_fillRow_64 N zk zs.1 zs.2.1 zs.2.2.1 zs.2.2.2.1 zs.2.2.2.2.1 zs.2.2.2.2.2) (m - 1) (p, a, Int32.ofNat R, Int32.ofNat ps.length, Int32.ofNat (u + 1), pa 0 1024 a f1 h) = some (Int32.ofNat ps.length, pa 0 1024 a f' h) ∧ ∀ s, s < 2 ^ R → f' s = Int32.ofNat (wF R ps s) := fun f1 hf1 => ih (u + 1) (m - 1) f1 (by omega) (by omega) hf1
    obtain ⟨m, rfl⟩ : ∃ j, m = j + 1 := ⟨m - 1, by omega⟩
    rw [gi_1]
    rw [show m + 1 - 1 = m by omega] at go
    generalize hz : gi _ m = zk at go ⊢
    dsimp only
    unfold f_X6_fillRow_64 f_X6_fillRow_107
    rw [sh, if_neg n1, bc, gc_s, A.aI ix2, gb_s, i_okc (by omega), fu0, gl_s, n_add1]
    by_cases z : wF R ps u = 0
    · have n2 : (Int32.ofNat (wF R ps u) ≤ (0 : Int32)) = True := nleT (b := 0) (by omega) (by omega) (by omega)
      rw [if_pos (of_eq_true n2)]
      exact go f (skip (Or.inl z))
    · have n2 : (Int32.ofNat (wF R ps u) ≤ (0 : Int32)) = False := nleF (b := 0) (by omega) (by omega) (by omega)
      rw [if_neg (of_eq_false n2)]
      by_cases y : ps.length ≤ cn u
      · rw [if_pos (of_eq_true (nleT y (by omega) (by omega)))]
        refine go f (skip (Or.inr ?_))
        rw [List.getD_eq_getElem?_getD, List.getElem?_eq_none y]
        rfl
      · rw [if_neg (of_eq_false (nleF y (by omega) (by omega)))]
        have hx : ps[cn u]? = some ps[cn u] := List.getElem?_eq_getElem (by omega)
        have hg : ps.getD (cn u) 0 = ps[cn u] := by rw [List.getD_eq_getElem?_getD, hx]; rfl
        have D2 : At sX6 p D (pa 0 1024 a f h) := hD.fr (Fr.pa (P := fun x => x = a) rfl) (fun x x1 x2 => by simp only [z6] at x2; omega)
        obtain ⟨f2, k1, k2⟩ := c_place (N := N) (h := h) (a := a) hN ha hR (u := u) (by omega) hg (hps _ (List.getElem_mem _)) hf
        rw [D2.gR (k := 1) rfl rfl, gb_s, D2.aI (j := 1) rfl (ixn (by omega) (by omega)), gb_s, i_okc (by omega), hr _ _ hx, k1, gb_s, gl_s]
        refine go f2 (fun s hs => ?_)
        rw [k2 s hs, wH_R]
end CWays

