/-! Porters: how late the stairs may get free -/
abbrev jt (J : List Tri) (j : Nat) : Tri := J.getD j (0, 0, 0)
def dnJ (J : List Tri) (lim : Nat) : Nat → List Nat → Prop
  | free, [] => free ≤ lim
  | free, j :: c => jOn (jt J j) free + (jt J j).2.1 + (jt J j).2.2 ≤ lim ∧ dnJ J lim (jOn (jt J j) free + (jt J j).2.1) c
def lsJ (J : List Tri) (lim : Nat) (lat : Nat → Int) (s j : Nat) : Int := (if (lim : Int) - ((jt J j).2.2 : Int) < lat (s - 2 ^ j) then (lim : Int) - ((jt J j).2.2 : Int) else lat (s - 2 ^ j)) - ((jt J j).2.1 : Int)
def lmJ (J : List Tri) (lim : Nat) (lat : Nat → Int) (s : Nat) : Nat → Int
  | 0 => -1
  | k + 1 => if s.testBit k = true ∧ ((jt J k).1 : Int) ≤ lsJ J lim lat s k then (if lmJ J lim lat s k < lsJ J lim lat s k then lsJ J lim lat s k else lmJ J lim lat s k) else lmJ J lim lat s k
def csL (J : List Tri) (lim : Nat) : Nat → Nat → Int
  | 0 => fun _ => (lim : Int)
  | k + 1 => fu (csL J lim k) (k + 1) (lmJ J lim (csL J lim k) (k + 1) J.length)
def latJ (J : List Tri) (lim : Nat) : Nat → Int := csL J lim 128
section PMath
variable {J : List Tri} {lim : Nat}
theorem lmJ_ext {f g : Nat → Int} {s : Nat} (h : ∀ t, t < s → f t = g t) : ∀ n, lmJ J lim f s n = lmJ J lim g s n := by
  intro n
  induction n with
  | zero => rfl
  | succ n ih =>
    unfold lmJ
    rw [ih]
    by_cases z : s.testBit n = true
    · have h1 := bit_le z
      have h2 := Nat.two_pow_pos n
      have e : lsJ J lim f s n = lsJ J lim g s n := by
        unfold lsJ
        rw [h (s - 2 ^ n) (by omega)]
      rw [e]
    · rw [if_neg (fun w => z w.1), if_neg (fun w => z w.1)]
theorem csL_st {s : Nat} : ∀ n, s ≤ n → csL J lim n s = csL J lim s s := by
  intro n
  induction n with
  | zero => intro h; have : s = 0 := by omega
            rw [this]
  | succ n ih =>
    intro h
    by_cases z : s = n + 1
    · rw [z]
    · show fu (csL J lim n) (n + 1) _ s = _
      rw [fu_ne z]
      exact ih (by omega)
theorem latJ_0 : latJ J lim 0 = (lim : Int) := by
  unfold latJ
  rw [csL_st 128 (by omega)]
  rfl
theorem latJ_s {s : Nat} (h0 : 0 < s) (h : s ≤ 128) : latJ J lim s = lmJ J lim (latJ J lim) s J.length := by
  unfold latJ
  rw [csL_st 128 h]
  obtain ⟨k, rfl⟩ : ∃ k, s = k + 1 := ⟨s - 1, by omega⟩
  show fu (csL J lim k) (k + 1) _ (k + 1) = _
  rw [fu_eq rfl]
  refine lmJ_ext (fun t ht => ?_) _
  rw [csL_st 128 (by omega), csL_st k (by omega)]
theorem lmJ_m {f : Nat → Int} {s : Nat} : ∀ n, -1 ≤ lmJ J lim f s n := by
  intro n
  induction n with
  | zero => exact Int.le_refl _
  | succ n ih =>
    unfold lmJ
    split
    · split <;> omega
    · exact ih
theorem lmJ_ge {f : Nat → Int} {s k : Nat} (h1 : s.testBit k = true) (h2 : ((jt J k).1 : Int) ≤ lsJ J lim f s k) : ∀ n, k < n → lsJ J lim f s k ≤ lmJ J lim f s n := by
  intro n
  induction n with
  | zero => intro h; omega
  | succ n ih =>
    intro h
    unfold lmJ
    by_cases z : k = n
    · subst z
      rw [if_pos ⟨h1, h2⟩]
      split <;> omega
    · have := ih (by omega)
      split
      · split <;> omega
      · exact this
theorem lmJ_ex {f : Nat → Int} {s : Nat} : ∀ n, lmJ J lim f s n = -1 ∨ ∃ k, k < n ∧ s.testBit k = true ∧ ((jt J k).1 : Int) ≤ lsJ J lim f s k ∧ lmJ J lim f s n = lsJ J lim f s k := by
  intro n
  induction n with
  | zero => exact Or.inl rfl
  | succ n ih =>
    unfold lmJ
    by_cases z : s.testBit n = true ∧ ((jt J n).1 : Int) ≤ lsJ J lim f s n
    · rw [if_pos z]
      by_cases w : lmJ J lim f s n < lsJ J lim f s n
      · rw [if_pos w]
        exact Or.inr ⟨n, by omega, z.1, z.2, rfl⟩
      · rw [if_neg w]
        rcases ih with u | ⟨k, a1, a2, a3, a4⟩
        · exact Or.inl u
        · exact Or.inr ⟨k, by omega, a2, a3, a4⟩
    · rw [if_neg z]
      rcases ih with u | ⟨k, a1, a2, a3, a4⟩
      · exact Or.inl u
      · exact Or.inr ⟨k, by omega, a2, a3, a4⟩
/-- an order of just this set -/
def OrdS (s : Nat) (c : List Nat) : Prop := c.Nodup ∧ ∀ j, j ∈ c ↔ s.testBit j = true
theorem latJ_iff (hL : J.length ≤ 7) : ∀ s, s < 2 ^ J.length → ∀ free : Nat, (free : Int) ≤ latJ J lim s ↔ ∃ c, OrdS s c ∧ dnJ J lim free c := by
  have pw : 2 ^ J.length ≤ 2 ^ 7 := Nat.pow_le_pow_right (by omega) hL
  have pw : 2 ^ J.length ≤ 128 := pw
  intro s
  induction s using Nat.strongRecOn with
  | ind s ih =>
    intro hs free
    by_cases z : s = 0
    · subst z
      rw [latJ_0]
      constructor
      · intro h
        refine ⟨[], ⟨List.nodup_nil, fun j => ?_⟩, ?_⟩
        · rw [Nat.zero_testBit]
          simp
        · show free ≤ lim
          omega
      · rintro ⟨c, ⟨_, h2⟩, h3⟩
        match c, h2, h3 with
        | [], _, h3 => have h3 : free ≤ lim := h3
                       omega
        | j :: c, h2, _ =>
          have := (h2 j).mp (List.mem_cons_self ..)
          rw [Nat.zero_testBit] at this
          cases this
    · rw [latJ_s (by omega) (by omega)]
      constructor
      · intro h
        rcases lmJ_ex (J := J) (lim := lim) (f := latJ J lim) (s := s) J.length with u | ⟨k, a1, a2, a3, a4⟩
        · omega
        · have h1 := bit_le a2
          have h2 := Nat.two_pow_pos k
          have on : ((jOn (jt J k) free : Nat) : Int) ≤ lsJ J lim (latJ J lim) s k := by
            unfold jOn
            split <;> omega
          have on2 := on
          unfold lsJ at on2
          have q1 : jOn (jt J k) free + (jt J k).2.1 + (jt J k).2.2 ≤ lim := by
            split at on2 <;> omega
          have q2 : ((jOn (jt J k) free + (jt J k).2.1 : Nat) : Int) ≤ latJ J lim (s - 2 ^ k) := by
            split at on2 <;> omega
          obtain ⟨c, ⟨c1, c2⟩, c3⟩ := (ih (s - 2 ^ k) (by omega) (by omega) _).mp q2
          have tb := sb (show s < 1024 by omega) a2
          refine ⟨k :: c, ⟨List.nodup_cons.mpr ⟨?_, c1⟩, fun j => ?_⟩, q1, c3⟩
          · intro w
            have := (c2 k).mp w
            rw [tb, decide_eq_false (by omega)] at this
            cases this
          · rw [List.mem_cons, c2 j, tb j]
            by_cases w : j = k
            · subst w
              simp [a2]
            · simp [w]
      · rintro ⟨c, ⟨h1, h2⟩, h3⟩
        match c, h1, h2, h3 with
        | [], _, h2, _ =>
          exfalso
          apply z
          apply Nat.eq_of_testBit_eq
          intro j
          rw [Nat.zero_testBit]
          cases w : s.testBit j with
          | false => rfl
          | true => exact absurd ((h2 j).mpr w) List.not_mem_nil
        | k :: c, h1, h2, h3 =>
          obtain ⟨n1, n2⟩ := List.nodup_cons.mp h1
          have a2 := (h2 k).mp (List.mem_cons_self ..)
          have b1 := bit_le a2
          have b2 := Nat.two_pow_pos k
          have tb := sb (show s < 1024 by omega) a2
          have q2 := (ih (s - 2 ^ k) (by omega) (by omega) (jOn (jt J k) free + (jt J k).2.1)).mpr ⟨c, ⟨n2, fun j => by
            rw [tb j]
            by_cases w : j = k
            · subst w
              simp [n1]
            · have := h2 j
              rw [List.mem_cons] at this
              simp only [w, false_or] at this
              simp [w, this]⟩, h3.2⟩
          have q1 : jOn (jt J k) free + (jt J k).2.1 + (jt J k).2.2 ≤ lim := h3.1
          have on : ((jOn (jt J k) free : Nat) : Int) ≤ lsJ J lim (latJ J lim) s k := by
            unfold lsJ
            split <;> omega
          have o1 := jOn_ge (jt J k) free
          have o2 : free ≤ jOn (jt J k) free := by unfold jOn; split <;> omega
          have := lmJ_ge (J := J) (lim := lim) (f := latJ J lim) a2 (by omega) J.length (bit_lt hs a2)
          omega
theorem dn_fold : ∀ (c : List Nat) (s : DB), s.1 ≤ s.2.1 → ((c.foldl (dbF J) s).2.1 ≤ lim ↔ s.2.1 ≤ lim ∧ dnJ J lim s.1 c) := by
  intro c
  induction c with
  | nil =>
    intro s h
    show s.2.1 ≤ lim ↔ s.2.1 ≤ lim ∧ s.1 ≤ lim
    omega
  | cons j c ih =>
    intro s h
    rw [List.foldl_cons]
    have e1 : (dbF J s j).1 = jOn (jt J j) s.1 + (jt J j).2.1 := rfl
    have e2 : (dbF J s j).2.1 = if s.2.1 < jOn (jt J j) s.1 + (jt J j).2.1 + (jt J j).2.2 then jOn (jt J j) s.1 + (jt J j).2.1 + (jt J j).2.2 else s.2.1 := rfl
    rw [ih (dbF J s j) (by rw [e1, e2]; split <;> omega), e1, e2]
    show _ ↔ s.2.1 ≤ lim ∧ jOn (jt J j) s.1 + (jt J j).2.1 + (jt J j).2.2 ≤ lim ∧ dnJ J lim (jOn (jt J j) s.1 + (jt J j).2.1) c
    constructor
    · rintro ⟨a, b⟩
      exact ⟨by split at a <;> omega, by split at a <;> omega, b⟩
    · rintro ⟨a, b, d⟩
      exact ⟨by split <;> omega, d⟩
theorem db_fd : ∀ (c : List Nat) (s : DB), s.1 ≤ s.2.1 → (c.foldl (dbF J) s).1 ≤ (c.foldl (dbF J) s).2.1 := by
  intro c
  induction c with
  | nil => intro s h; exact h
  | cons j c ih =>
    intro s h
    rw [List.foldl_cons]
    refine ih _ ?_
    have e1 : (dbF J s j).1 = jOn (jt J j) s.1 + (jt J j).2.1 := rfl
    have e2 : (dbF J s j).2.1 = if s.2.1 < jOn (jt J j) s.1 + (jt J j).2.1 + (jt J j).2.2 then jOn (jt J j) s.1 + (jt J j).2.1 + (jt J j).2.2 else s.2.1 := rfl
    rw [e1, e2]
    split <;> omega
/-- there is a way on from here that is done in time -/
def FPJ (J : List Tri) (lim : Nat) (row : List Nat) : Prop := ∃ c, POk J.length (row ++ c) ∧ doneS J (row ++ c) ≤ lim
/-- who is left -/
def lfJ (L : Nat) (row : List Nat) : Nat := msk (fun k => !row.contains k) L
theorem lfJ_b (L : Nat) (row : List Nat) (j : Nat) : (lfJ L row).testBit j = true ↔ j < L ∧ j ∉ row := by
  unfold lfJ
  rw [msk_bit, Bool.and_eq_true, decide_eq_true_iff, Bool.not_eq_true', ← Bool.not_eq_true, List.contains_iff_mem]
theorem cntB_1 : ∀ n, cntB (fun _ => true) n = n := by
  intro n
  induction n with
  | zero => rfl
  | succ n ih => unfold cntB; rw [ih]; rfl
theorem len_all {L : Nat} {l : List Nat} (h1 : l.Nodup) (h2 : ∀ j, j ∈ l ↔ j < L) : l.length = L := by
  have := cntB_l (n := L) l h1 (fun x hx => (h2 x).mp hx)
  rw [← this, cntB_ext (q := fun _ => true) (fun k hk => List.contains_iff_mem.mpr ((h2 k).mpr hk)), cntB_1]
/-- a beginning of an order -/
def BegJ (L : Nat) (row : List Nat) : Prop := row.Nodup ∧ ∀ j, j ∈ row → j < L
theorem POk_ord {L : Nat} {row c : List Nat} (hb : BegJ L row) : POk L (row ++ c) ↔ OrdS (lfJ L row) c := by
  constructor
  · rintro ⟨h1, h2, h3⟩
    obtain ⟨n1, n2, n3⟩ := List.nodup_append.mp h2
    refine ⟨n2, fun j => ?_⟩
    rw [lfJ_b]
    constructor
    · intro h
      exact ⟨h3 j (List.mem_append_right _ h), fun w => n3 j w j h rfl⟩
    · rintro ⟨a, b⟩
      rcases List.mem_append.mp (perm_mem _ h2 h3 h1 j a) with w | w
      · exact absurd w b
      · exact w
  · rintro ⟨h1, h2⟩
    have nd : (row ++ c).Nodup := by
      rw [List.nodup_append]
      refine ⟨hb.1, h1, ?_⟩
      intro a ha b hbb w
      subst w
      have := (lfJ_b _ _ _).mp ((h2 a).mp hbb)
      exact this.2 ha
    have lt : ∀ j, j ∈ row ++ c → j < L := by
      intro j hj
      rcases List.mem_append.mp hj with w | w
      · exact hb.2 j w
      · exact ((lfJ_b _ _ _).mp ((h2 j).mp w)).1
    refine ⟨len_all nd (fun j => ⟨lt j, fun hj => ?_⟩), nd, lt⟩
    rcases Decidable.em (j ∈ row) with w | w
    · exact List.mem_append_left _ w
    · exact List.mem_append_right _ ((h2 j).mpr ((lfJ_b _ _ _).mpr ⟨hj, w⟩))
theorem BegJ.snoc {L i : Nat} {row : List Nat} (hb : BegJ L row) (h1 : i < L) (h2 : i ∉ row) : BegJ L (row ++ [i]) := by
  refine ⟨?_, ?_⟩
  · rw [List.nodup_append]
    refine ⟨hb.1, List.nodup_cons.mpr ⟨List.not_mem_nil, List.nodup_nil⟩, ?_⟩
    intro a ha b hbb w
    rw [List.mem_singleton.mp hbb] at w
    subst w
    exact h2 ha
  · intro j hj
    rcases List.mem_append.mp hj with w | w
    · exact hb.2 j w
    · rw [List.mem_singleton.mp w]; exact h1
theorem lfJ_lt (L : Nat) (row : List Nat) : lfJ L row < 2 ^ L := msk_lt _ _
theorem lfJ_s {L i : Nat} {row : List Nat} (h1 : i < L) (h2 : i ∉ row) : lfJ L (row ++ [i]) = lfJ L row - 2 ^ i := by
  have e := sub_msk (n := L) (lfJ_lt L row) ((lfJ_b L row i).mpr ⟨h1, h2⟩)
  rw [e]
  unfold lfJ
  refine msk_ext (fun k hk => ?_)
  rw [fu_at, msk_bit]
  by_cases w : k = i
  · rw [if_pos w, w]
    simp
  · rw [if_neg w]
    simp [w, hk]
theorem dbS_snoc (row : List Nat) (i : Nat) : dbS J (row ++ [i]) = dbF J (dbS J row) i := by
  unfold dbS
  rw [List.foldl_append]
  rfl
theorem FPJ_iff (hL : J.length ≤ 7) {row : List Nat} (hb : BegJ J.length row) : FPJ J lim row ↔ (dbS J row).2.1 ≤ lim ∧ ((dbS J row).1 : Int) ≤ latJ J lim (lfJ J.length row) := by
  have fd : (dbS J row).1 ≤ (dbS J row).2.1 := db_fd row db0 (Nat.le_refl _)
  rw [latJ_iff hL _ (lfJ_lt _ _)]
  unfold FPJ
  constructor
  · rintro ⟨c, h1, h2⟩
    unfold doneS dbS at h2
    rw [List.foldl_append] at h2
    have := (dn_fold c _ fd).mp h2
    exact ⟨this.1, c, (POk_ord hb).mp h1, this.2⟩
  · rintro ⟨h1, c, h2, h3⟩
    refine ⟨c, (POk_ord hb).mpr h2, ?_⟩
    unfold doneS dbS
    rw [List.foldl_append]
    exact (dn_fold c _ fd).mpr ⟨h1, h3⟩
theorem FPJ_next (hL : J.length ≤ 7) {row : List Nat} (hb : BegJ J.length row) (hd : (dbS J row).2.1 ≤ lim) {i : Nat} (h1 : i < J.length) (h2 : i ∉ row) : FPJ J lim (row ++ [i]) ↔ ((jOn (jt J i) (dbS J row).1 : Nat) : Int) ≤ lsJ J lim (latJ J lim) (lfJ J.length row) i := by
  rw [FPJ_iff hL (hb.snoc h1 h2), dbS_snoc, lfJ_s h1 h2]
  have e1 : (dbF J (dbS J row) i).1 = jOn (jt J i) (dbS J row).1 + (jt J i).2.1 := rfl
  have e2 : (dbF J (dbS J row) i).2.1 = if (dbS J row).2.1 < jOn (jt J i) (dbS J row).1 + (jt J i).2.1 + (jt J i).2.2 then jOn (jt J i) (dbS J row).1 + (jt J i).2.1 + (jt J i).2.2 else (dbS J row).2.1 := rfl
  rw [e1, e2]
  unfold lsJ
  constructor
  · rintro ⟨a, b⟩
    split at a <;> split <;> omega
  · intro h
    split at h
    · refine ⟨?_, by omega⟩
      split <;> omega
    · refine ⟨?_, by omega⟩
      split <;> omega
theorem FPJ_ex {row : List Nat} (h : FPJ J lim row) (hl : row.length < J.length) : ∃ i, i < J.length ∧ i ∉ row ∧ FPJ J lim (row ++ [i]) := by
  obtain ⟨c, h1, h2⟩ := h
  match c, h1, h2 with
  | [], h1, _ =>
    have := h1.1
    rw [List.append_nil] at this
    omega
  | i :: c, h1, h2 =>
    have e : row ++ i :: c = (row ++ [i]) ++ c := by simp
    refine ⟨i, h1.2.2 i (by simp), ?_, c, by rw [← e]; exact h1, by rw [← e]; exact h2⟩
    intro w
    exact (List.nodup_append.mp h1.2.1).2.2 i w i (List.mem_cons_self ..) rfl
end PMath

