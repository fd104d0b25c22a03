/-! Order: the first of the best -/
section OLex
variable {ok : Nat → Bool} {G L : Nat} {lt : List Nat → List Nat → Bool}
/-- an order of some of those who are booked -/
def PrG (ok : Nat → Bool) (G : Nat) (row : List Nat) : Prop := row.Nodup ∧ ∀ g, g ∈ row → ok g = true ∧ g < G
theorem PrG.sn {row : List Nat} {g : Nat} (h : PrG ok G row) (h1 : ok g = true) (h2 : g < G) (h3 : g ∉ row) : PrG ok G (row ++ [g]) := by
  refine ⟨?_, ?_⟩
  · rw [List.nodup_append]
    refine ⟨h.1, List.nodup_cons.mpr ⟨List.not_mem_nil, List.nodup_nil⟩, ?_⟩
    intro x hx y hy
    rw [List.mem_singleton.mp hy]
    intro z
    subst z
    exact h3 hx
  · intro x hx
    rcases List.mem_append.mp hx with z | z
    · exact h.2 x z
    · rw [List.mem_singleton.mp z]
      exact ⟨h1, h2⟩
def WsG (lt : List Nat → List Nat → Bool) (R : List Nat) (b : Option (List Nat)) : Prop := ∀ r, b = some r → lt R r = true
theorem tryG_hi {R : List Nat} : ∀ n row b, row.length + n = L → PrG ok G row → (∀ c, (row ++ c).length = L → PrG ok G (row ++ c) → lt R (row ++ c) = true) → WsG lt R b → WsG lt R (tryG ok G lt n row b) := by
  intro n
  induction n with
  | zero =>
    intro row b h1 h2 h3 h4 r hr
    have h5 := h3 [] (by rw [List.append_nil]; omega) (by rw [List.append_nil]; exact h2)
    rw [List.append_nil] at h5
    unfold tryG at hr
    cases b with
    | none => cases hr; exact h5
    | some s =>
      have hr : (if lt row s = true then some row else some s) = some r := hr
      split at hr
      · cases hr; exact h5
      · exact h4 r hr
  | succ n ih =>
    intro row b h1 h2 h3 h4
    unfold tryG
    refine fold_inv (P := fun b => WsG lt R b) _ b h4 (fun b g hg hb => ?_)
    split
    · rename_i q
      simp only [Bool.and_eq_true, Bool.not_eq_true'] at q
      have ng : g ∉ row := fun w => by
        rw [List.contains_iff_mem.mpr w] at q
        cases q.2
      refine ih _ _ (by rw [List.length_append]; show row.length + 1 + n = _; omega) (h2.sn q.1 (List.mem_range.mp hg) ng) (fun c hc hp => ?_) hb
      have e : row ++ [g] ++ c = row ++ g :: c := by simp
      rw [e] at hc hp ⊢
      exact h3 _ hc hp
    · exact hb
theorem tryG_keep {R : List Nat} (hm : ∀ c, c.length = L → PrG ok G c → lt c R = false) : ∀ n row, row.length + n = L → PrG ok G row → tryG ok G lt n row (some R) = some R := by
  intro n
  induction n with
  | zero =>
    intro row h1 h2
    unfold tryG
    show (if lt row R = true then some row else some R) = some R
    rw [hm row (by omega) h2]
    rfl
  | succ n ih =>
    intro row h1 h2
    unfold tryG
    refine fold_same _ (fun g hg => ?_)
    split
    · rename_i q
      simp only [Bool.and_eq_true, Bool.not_eq_true'] at q
      have ng : g ∉ row := fun w => by
        rw [List.contains_iff_mem.mpr w] at q
        cases q.2
      exact ih _ (by rw [List.length_append]; show row.length + 1 + n = _; omega) (h2.sn q.1 (List.mem_range.mp hg) ng)
    · rfl
theorem tryG_lex {R : List Nat} (hl : R.length = L) (hR : PrG ok G R) (hm : ∀ c, c.length = L → PrG ok G c → lt c R = false) (hx : ∀ (m x i : Nat) (c : List Nat), R[m]? = some x → i < x → (R.take m ++ i :: c).length = L → PrG ok G (R.take m ++ i :: c) → lt R (R.take m ++ i :: c) = true) : ∀ n k b, k + n = L → WsG lt R b → tryG ok G lt n (R.take k) b = some R := by
  have bg : ∀ k, PrG ok G (R.take k) := fun k => ⟨hR.1.sublist (List.take_sublist k R), fun j hj => hR.2 j (List.mem_of_mem_take hj)⟩
  intro n
  induction n with
  | zero =>
    intro k b hk hb
    rw [List.take_of_length_le (by omega)]
    unfold tryG
    cases b with
    | none => rfl
    | some r =>
      show (if lt R r = true then some R else some r) = some R
      rw [hb r rfl]
      rfl
  | succ n ih =>
    intro k b hk hb
    have hkl : k < R.length := by omega
    obtain ⟨j, hj⟩ : ∃ j, R[k]? = some j := ⟨_, List.getElem?_eq_getElem hkl⟩
    have hjl := hR.2 j (List.mem_of_getElem? hj)
    have tk : R.take (k + 1) = R.take k ++ [j] := by
      rw [List.take_add_one, hj]
      rfl
    have tl : (R.take k).length = k := by rw [List.length_take]; omega
    have jn : j ∉ R.take k := by
      have := (bg (k + 1)).1
      rw [tk] at this
      intro w
      exact (List.nodup_append.mp this).2.2 j w j (List.mem_singleton.mpr rfl) rfl
    unfold tryG
    have dr : (List.range G).drop j = j :: (List.range G).drop (j + 1) := by
      rw [List.drop_eq_getElem_cons (by rw [List.length_range]; exact hjl.2), List.getElem_range]
    have sp : List.range G = (List.range G).take j ++ (j :: (List.range G).drop (j + 1)) := by
      rw [← dr, List.take_append_drop]
    rw [sp, List.foldl_append, List.foldl_cons]
    have p1 : WsG lt R (((List.range G).take j).foldl (fun b g => if ok g && !(R.take k).contains g then tryG ok G lt n (R.take k ++ [g]) b else b) b) := by
      refine fold_inv (P := fun b => WsG lt R b) _ b hb (fun x i hi hxx => ?_)
      have il : i < j := by
        obtain ⟨m, hm'⟩ := List.getElem?_of_mem hi
        have h1 := ln_of hm'
        rw [List.length_take] at h1
        rw [List.getElem?_take, if_pos (by omega)] at hm'
        have h2 := ln_of hm'
        rw [List.length_range] at h2
        rw [List.getElem?_range h2] at hm'
        cases hm'
        omega
      split
      · rename_i q
        simp only [Bool.and_eq_true, Bool.not_eq_true'] at q
        have ng : i ∉ R.take k := fun w => by
          rw [List.contains_iff_mem.mpr w] at q
          cases q.2
        refine tryG_hi (L := L) _ _ _ (by rw [List.length_append, tl]; show k + 1 + n = _; omega) ((bg k).sn q.1 (by have := hjl.2; omega) ng) (fun c hc hp => ?_) hxx
        have e : R.take k ++ [i] ++ c = R.take k ++ i :: c := by simp
        rw [e] at hc hp ⊢
        exact hx k j i c hj il hc hp
      · exact hxx
    generalize ((List.range G).take j).foldl (fun b g => if ok g && !(R.take k).contains g then tryG ok G lt n (R.take k ++ [g]) b else b) b = b1 at p1 ⊢
    have cj : (R.take k).contains j = false := by
      rw [← Bool.not_eq_true]
      intro w
      exact jn (List.contains_iff_mem.mp w)
    rw [cj, hjl.1]
    show (List.foldl _ (tryG ok G lt n (R.take k ++ [j]) b1) _) = _
    rw [← tk, ih (k + 1) b1 (by omega) p1]
    refine fold_same _ (fun i hi => ?_)
    have il : i < G := List.mem_range.mp (List.mem_of_mem_drop hi)
    split
    · rename_i q
      simp only [Bool.and_eq_true, Bool.not_eq_true'] at q
      have ng : i ∉ R.take k := fun w => by
        rw [List.contains_iff_mem.mpr w] at q
        cases q.2
      exact tryG_keep hm _ _ (by rw [List.length_append, tl]; show k + 1 + n = _; omega) ((bg k).sn q.1 il ng)
    · rfl
end OLex
section OMin
variable {I : IA} {q : Nat}
def cbR (I : IA) (q : Nat) : List Nat → Nat
  | [] => 0
  | g :: r => cbR I q r + if g ≠ q ∧ iBa I g ≠ 0 then 1 else 0
def eR (q : Nat) (r : List Nat) : Nat := if q ∈ r then 1 else 0
def triN : Nat → Nat
  | 0 => 0
  | n + 1 => triN n + n
def invR (I : IA) (q : Nat) : List Nat → Prop
  | [] => False
  | g :: r => (g ≠ q ∧ iBa I g ≠ 0 ∧ ∃ j, j ∈ r ∧ j ≠ q ∧ iBa I j = 0) ∨ invR I q r
theorem eR_c {g : Nat} {r : List Nat} (h : g ≠ q) : eR q (g :: r) = eR q r := by
  unfold eR
  have : (q ∈ g :: r) ↔ q ∈ r := by
    rw [List.mem_cons]
    exact ⟨fun w => w.resolve_left (fun z => h z.symm), Or.inr⟩
  simp only [this]
theorem eR_q (r : List Nat) : eR q (q :: r) = 1 := if_pos (List.mem_cons_self ..)
theorem eR_le (r : List Nat) : eR q r ≤ 1 := by unfold eR; split <;> omega
theorem cb_len : ∀ r : List Nat, cbR I q r ≤ r.length := by
  intro r
  induction r with
  | nil => exact Nat.le_refl _
  | cons g r ih =>
    show cbR I q r + _ ≤ r.length + 1
    split <;> omega
theorem cbe_len : ∀ r : List Nat, cbR I q r + eR q r ≤ r.length := by
  intro r
  induction r with
  | nil =>
    show 0 + eR q [] ≤ 0
    unfold eR
    rw [if_neg (List.not_mem_nil)]
    omega
  | cons g r ih =>
    have c1 := cb_len (I := I) (q := q) r
    by_cases z : g = q
    · subst z
      rw [eR_q]
      show cbR I g r + (if g ≠ g ∧ iBa I g ≠ 0 then 1 else 0) + 1 ≤ r.length + 1
      rw [if_neg (fun w => w.1 rfl)]
      omega
    · rw [eR_c z]
      show cbR I q r + (if g ≠ q ∧ iBa I g ≠ 0 then 1 else 0) + eR q r ≤ r.length + 1
      split <;> omega
theorem cbe_lt : ∀ r : List Nat, (∃ j, j ∈ r ∧ j ≠ q ∧ iBa I j = 0) → cbR I q r + eR q r + 1 ≤ r.length := by
  intro r
  induction r with
  | nil => rintro ⟨j, h, _⟩; cases h
  | cons g r ih =>
    rintro ⟨j, h1, h2, h3⟩
    have c2 := cbe_len (I := I) (q := q) r
    rcases List.mem_cons.mp h1 with w | w
    · subst w
      rw [eR_c h2]
      show cbR I q r + (if j ≠ q ∧ iBa I j ≠ 0 then 1 else 0) + eR q r + 1 ≤ r.length + 1
      rw [if_neg (fun w => w.2 h3)]
      omega
    · have := ih ⟨j, w, h2, h3⟩
      by_cases z : g = q
      · subst z
        rw [eR_q]
        show cbR I g r + (if g ≠ g ∧ iBa I g ≠ 0 then 1 else 0) + 1 + 1 ≤ r.length + 1
        rw [if_neg (fun w => w.1 rfl)]
        omega
      · rw [eR_c z]
        show cbR I q r + (if g ≠ q ∧ iBa I g ≠ 0 then 1 else 0) + eR q r + 1 ≤ r.length + 1
        split <;> omega
theorem cbe_eq : ∀ r : List Nat, r.Nodup → ¬ (∃ j, j ∈ r ∧ j ≠ q ∧ iBa I j = 0) → cbR I q r + eR q r = r.length := by
  intro r
  induction r with
  | nil =>
    intro _ _
    show 0 + eR q [] = 0
    unfold eR
    rw [if_neg (List.not_mem_nil)]
  | cons g r ih =>
    intro hn h
    obtain ⟨n1, n2⟩ := List.nodup_cons.mp hn
    have := ih n2 (fun ⟨j, a, b⟩ => h ⟨j, List.mem_cons_of_mem _ a, b⟩)
    by_cases z : g = q
    · subst z
      have e0 : eR g r = 0 := if_neg n1
      rw [eR_q]
      show cbR I g r + (if g ≠ g ∧ iBa I g ≠ 0 then 1 else 0) + 1 = r.length + 1
      rw [if_neg (fun w => w.1 rfl)]
      omega
    · rw [eR_c z]
      show cbR I q r + (if g ≠ q ∧ iBa I g ≠ 0 then 1 else 0) + eR q r = r.length + 1
      rw [if_pos ⟨z, fun w => h ⟨g, List.mem_cons_self .., z, w⟩⟩]
      omega
theorem sp_low : ∀ r : List Nat, (∀ g, g ∈ r → iBa I g ≤ 1) → mvR q r = 0 → triN (cbR I q r) + cbR I q r * eR q r ≤ spR I r ∧ (invR I q r → triN (cbR I q r) + cbR I q r * eR q r < spR I r) := by
  intro r
  induction r with
  | nil => intro _ _; exact ⟨Nat.zero_mul _ ▸ Nat.le_refl _, fun h => h.elim⟩
  | cons g r ih =>
    intro hb hm
    have hg := hb g (List.mem_cons_self ..)
    by_cases z : g = q
    · subst z
      have hm : (if g = g then r.length else mvR g r) = 0 := hm
      rw [if_pos rfl] at hm
      have : r = [] := List.eq_nil_of_length_eq_zero hm
      subst this
      have e : cbR I g [g] = 0 := by
        show 0 + (if g ≠ g ∧ iBa I g ≠ 0 then 1 else 0) = 0
        rw [if_neg (fun w => w.1 rfl)]
      rw [e, Nat.zero_mul]
      refine ⟨Nat.zero_le _, ?_⟩
      rintro (⟨w, _⟩ | w)
      · exact absurd rfl w
      · exact w.elim
    · have hm : (if g = q then r.length else mvR q r) = 0 := hm
      rw [if_neg z] at hm
      obtain ⟨i1, i2⟩ := ih (fun x hx => hb x (List.mem_cons_of_mem _ hx)) hm
      have c1 := cbe_len (I := I) (q := q) r
      rw [eR_c z]
      show triN (cbR I q r + (if g ≠ q ∧ iBa I g ≠ 0 then 1 else 0)) + (cbR I q r + (if g ≠ q ∧ iBa I g ≠ 0 then 1 else 0)) * eR q r ≤ iBa I g * r.length + spR I r ∧ (_ → triN (cbR I q r + (if g ≠ q ∧ iBa I g ≠ 0 then 1 else 0)) + (cbR I q r + (if g ≠ q ∧ iBa I g ≠ 0 then 1 else 0)) * eR q r < iBa I g * r.length + spR I r)
      by_cases w : iBa I g = 0
      · rw [if_neg (fun u => u.2 w), w, Nat.zero_mul, Nat.add_zero, Nat.zero_add]
        refine ⟨i1, ?_⟩
        rintro (⟨_, u, _⟩ | u)
        · exact absurd w u
        · exact i2 u
      · have e1 : iBa I g = 1 := by omega
        have e2 : triN (cbR I q r + 1) = triN (cbR I q r) + cbR I q r := rfl
        rw [if_pos ⟨z, w⟩, e1, Nat.one_mul, e2, Nat.add_mul, Nat.one_mul]
        refine ⟨by omega, ?_⟩
        rintro (⟨_, _, u⟩ | u)
        · have := cbe_lt (I := I) (q := q) r u
          omega
        · have := i2 u
          omega
theorem sp_eq : ∀ r : List Nat, r.Nodup → (∀ g, g ∈ r → iBa I g ≤ 1) → mvR q r = 0 → ¬ invR I q r → spR I r = triN (cbR I q r) + cbR I q r * eR q r := by
  intro r
  induction r with
  | nil => intro _ _ _ _; show 0 = 0 + 0 * _; rw [Nat.zero_mul]
  | cons g r ih =>
    intro hn hb hm hv
    obtain ⟨n1, n2⟩ := List.nodup_cons.mp hn
    have hg := hb g (List.mem_cons_self ..)
    by_cases z : g = q
    · subst z
      have hm : (if g = g then r.length else mvR g r) = 0 := hm
      rw [if_pos rfl] at hm
      have : r = [] := List.eq_nil_of_length_eq_zero hm
      subst this
      have e : cbR I g [g] = 0 := by
        show 0 + (if g ≠ g ∧ iBa I g ≠ 0 then 1 else 0) = 0
        rw [if_neg (fun w => w.1 rfl)]
      rw [e, Nat.zero_mul]
      show iBa I g * 0 + 0 = _
      rw [Nat.mul_zero]
      rfl
    · have hm : (if g = q then r.length else mvR q r) = 0 := hm
      rw [if_neg z] at hm
      have i1 := ih n2 (fun x hx => hb x (List.mem_cons_of_mem _ hx)) hm (fun w => hv (Or.inr w))
      rw [eR_c z]
      show iBa I g * r.length + spR I r = triN (cbR I q r + (if g ≠ q ∧ iBa I g ≠ 0 then 1 else 0)) + (cbR I q r + (if g ≠ q ∧ iBa I g ≠ 0 then 1 else 0)) * eR q r
      by_cases w : iBa I g = 0
      · rw [if_neg (fun u => u.2 w), w, Nat.zero_mul, Nat.add_zero, Nat.zero_add]
        exact i1
      · have e1 : iBa I g = 1 := by omega
        have e2 : triN (cbR I q r + 1) = triN (cbR I q r) + cbR I q r := rfl
        have c1 := cbe_eq (I := I) (q := q) r n2 (fun u => hv (Or.inl ⟨z, w, u⟩))
        rw [if_pos ⟨z, w⟩, e1, Nat.one_mul, e2, Nat.add_mul, Nat.one_mul]
        omega
theorem inv_app {s : List Nat} (h : invR I q s) : ∀ p : List Nat, invR I q (p ++ s) := by
  intro p
  induction p with
  | nil => exact h
  | cons g p ih => exact Or.inr ih
theorem cb_cnt {n : Nat} : ∀ r : List Nat, r.Nodup → (∀ x, x ∈ r → x < n) → cbR I q r = cntB (fun g => r.contains g && (decide (g ≠ q) && decide (iBa I g ≠ 0))) n := by
  intro r
  induction r with
  | nil =>
    intro _ _
    show 0 = _
    rw [cntB_ext (q := fun _ => false) (fun k _ => by simp), cntB_0]
  | cons x r ih =>
    intro hn hx
    obtain ⟨n1, n2⟩ := List.nodup_cons.mp hn
    have i1 := ih n2 (fun y hy => hx y (List.mem_cons_of_mem _ hy))
    have nc : r.contains x = false := by
      rw [← Bool.not_eq_true]
      intro w
      exact n1 (List.contains_iff_mem.mp w)
    show cbR I q r + (if x ≠ q ∧ iBa I x ≠ 0 then 1 else 0) = _
    rw [i1]
    by_cases w : x ≠ q ∧ iBa I x ≠ 0
    · rw [if_pos w]
      have := cntB_fu (p := fun g => r.contains g && (decide (g ≠ q) && decide (iBa I g ≠ 0))) (x := x) (by show (r.contains x && _) = false; rw [nc]; rfl) n
      rw [if_pos (hx x (List.mem_cons_self ..))] at this
      rw [← this]
      refine cntB_ext (fun k _ => ?_)
      rw [fu_at, List.contains_cons]
      by_cases u : k = x
      · rw [if_pos u, u, beq_self_eq_true, decide_eq_true w.1, decide_eq_true w.2]
        rfl
      · rw [if_neg u, beq_eq_false_iff_ne.mpr u, Bool.false_or]
    · rw [if_neg w, Nat.add_zero]
      refine cntB_ext (fun k _ => ?_)
      rw [List.contains_cons]
      by_cases u : k = x
      · have : (decide (x ≠ q) && decide (iBa I x ≠ 0)) = false := by
          rw [← Bool.not_eq_true, Bool.and_eq_true]
          intro v
          exact w ⟨of_decide_eq_true v.1, of_decide_eq_true v.2⟩
        rw [u, this, Bool.and_false, Bool.and_false]
      · rw [beq_eq_false_iff_ne.mpr u, Bool.false_or]
theorem cntB_same {p r : Nat → Bool} : ∀ n, (∀ k, k < n → p k = true → r k = true) → cntB p n = cntB r n → ∀ k, k < n → p k = r k := by
  have le : ∀ n, (∀ k, k < n → p k = true → r k = true) → cntB p n ≤ cntB r n := by
    intro n
    induction n with
    | zero => intro _; exact Nat.le_refl _
    | succ n ih =>
      intro h
      have := ih (fun k hk => h k (by omega))
      unfold cntB
      cases hp : p n with
      | false => rw [if_neg (by simp)]; omega
      | true => rw [h n (by omega) hp]; omega
  intro n
  induction n with
  | zero => intro _ _ k hk; omega
  | succ n ih =>
    intro h he k hk
    have l1 := le n (fun k hk => h k (by omega))
    unfold cntB at he
    have hn : p n = r n := by
      cases hp : p n with
      | true => rw [h n (by omega) hp]
      | false =>
        cases hr : r n with
        | false => rfl
        | true =>
          rw [hp, hr, if_neg (by simp), if_pos rfl] at he
          omega
    by_cases z : k = n
    · rw [z]; exact hn
    · refine ih (fun k hk => h k (by omega)) ?_ k (by omega)
      rw [hn] at he
      omega
end OMin

