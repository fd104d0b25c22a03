/-! The component: new objects -/
def blk (S : Sp) (p : Nat) (D : OD) : PH := (List.range (sz S)).map (bcell S p D)
def D00 : OD := (fun _ => 0, fun _ => 0, fun _ _ => 0, fun _ _ => 0, fun _ => .null, fun _ _ => none)
theorem blk_len (S : Sp) (p : Nat) (D : OD) : (blk S p D).length = sz S := by
  unfold blk
  rw [List.length_map, List.length_range]
theorem At_blk {S : Sp} {D : OD} {h l : PH} : At S h.length D (h ++ (blk S h.length D ++ l)) := by
  rw [At_iff]
  intro a h1 h2
  rw [List.getElem?_append_right h1, List.getElem?_append_left (by rw [blk_len]; omega)]
  unfold blk
  rw [List.getElem?_map, List.getElem?_range (by omega)]
  rfl
theorem At_blk0 {S : Sp} {D : OD} {h : PH} : At S h.length D (h ++ blk S h.length D) := by
  have := At_blk (S := S) (D := D) (h := h) (l := [])
  rw [List.append_nil] at this
  exact this
theorem pfV_ap {ci k j : Nat} {v : Value} {h L : PH} {fs : List Value} (hj : L[j]? = some (.inr (ci, fs))) (hk : k < fs.length) : pfV ci k (h.length + j) v (h ++ L) = some (h ++ L.set j (.inr (ci, fs.set k v))) := by
  have hl := ln_of hj
  unfold pfV
  rw [List.getElem?_append_right (by omega), Nat.add_sub_cancel_left, hj]
  show (if ci = ci ∧ k < fs.length then some ((h ++ L).set (h.length + j) (.inr (ci, fs.set k v))) else none) = _
  rw [if_pos ⟨rfl, hk⟩, List.set_append_right _ _ (by omega), Nat.add_sub_cancel_left]
theorem pfV_a0 {ci k : Nat} {v : Value} {h L : PH} {fs : List Value} (hk : k < fs.length) : pfV ci k h.length v (h ++ .inr (ci, fs) :: L) = some (h ++ .inr (ci, fs.set k v) :: L) := pfV_ap (j := 0) rfl hk
theorem nwA_a {t n : Nat} {h L : PH} : nwA t n (h ++ L) = some (h.length + L.length, h ++ (L ++ [.inl (t, n, match t with
  | 1 => .inr (.inl (fun _ => 0))
  | 4 => .inr (.inr (.inr (.inr (fun _ => none))))
  | 5 => .inr (.inr (.inr (.inr (fun _ => none))))
  | _ => .inl (fun _ => 0))])) := by
  unfold nwA
  rw [List.length_append, List.append_assoc]
  rfl
section CInit
variable {N : Nat} {h : PH}
theorem al_I {β : Type} {n ci k : Nat} {fs : List Value} {L : PH} {F : PH → Option β} (hk : k < fs.length) : (gc (nwA 0 n (h ++ .inr (ci, fs) :: L)) fun zr zh => gb (pfV ci k h.length (.ref zr) zh) F) = F (h ++ .inr (ci, fs.set k (.ref (h.length + (L.length + 1)))) :: (L ++ [.inl (0, n, .inl (fun _ => 0))])) := by
  rw [nwA_a, gc_s, List.cons_append, pfV_a0 hk, gb_s]
  rfl
theorem al_L {β : Type} {n ci k : Nat} {fs : List Value} {L : PH} {F : PH → Option β} (hk : k < fs.length) : (gc (nwA 1 n (h ++ .inr (ci, fs) :: L)) fun zr zh => gb (pfV ci k h.length (.ref zr) zh) F) = F (h ++ .inr (ci, fs.set k (.ref (h.length + (L.length + 1)))) :: (L ++ [.inl (1, n, .inr (.inl (fun _ => 0)))])) := by
  rw [nwA_a, gc_s, List.cons_append, pfV_a0 hk, gb_s]
  rfl
theorem c_init0 : f_X0_init N h.length (h ++ [.inr (0, n0X0)]) = some (h ++ blk sX0 h.length D00) := by
  unfold f_X0_init
  rw [nwA_a, gc_s, List.singleton_append]
  unfold n0X0
  rw [pfV_a0 (by simp), gb_s]
  rfl
theorem c_init10 : f_X10_init N h.length (h ++ [.inr (10, n0X10)]) = some (h ++ blk sX10 h.length D00) := by
  unfold f_X10_init
  rw [nwA_a, gc_s, List.singleton_append]
  unfold n0X10
  rw [pfV_a0 (by simp), gb_s]
  rfl
theorem c_init7 : f_X7_init N h.length (h ++ [.inr (7, n0X7)]) = some (h ++ blk sX7 h.length D00) := by
  unfold f_X7_init n0X7
  rw [al_I (by simp), al_I (by simp)]
  rfl
theorem c_init6 : f_X6_init N h.length (h ++ [.inr (6, n0X6)]) = some (h ++ blk sX6 h.length D00) := by
  unfold f_X6_init n0X6
  rw [al_I (by simp), al_I (by simp)]
  rfl
theorem c_init4 : f_X4_init N h.length (h ++ [.inr (4, n0X4)]) = some (h ++ blk sX4 h.length D00) := by
  unfold f_X4_init n0X4
  rw [al_I (by simp), al_I (by simp), al_I (by simp)]
  rfl
theorem c_init5 : f_X5_init N h.length (h ++ [.inr (5, n0X5)]) = some (h ++ blk sX5 h.length D00) := by
  unfold f_X5_init n0X5
  rw [al_I (by simp), al_I (by simp), al_I (by simp)]
  rfl
theorem c_init8 : f_X8_init N h.length (h ++ [.inr (8, n0X8)]) = some (h ++ blk sX8 h.length D00) := by
  unfold f_X8_init n0X8
  rw [al_I (by simp), al_I (by simp), al_I (by simp), al_I (by simp), al_I (by simp)]
  rfl
theorem c_init2 : f_X2_init N h.length (h ++ [.inr (2, n0X2)]) = some (h ++ blk sX2 h.length D00) := by
  unfold f_X2_init n0X2
  rw [al_I (by simp), al_I (by simp), al_I (by simp), al_L (by simp), al_I (by simp), al_I (by simp)]
  rfl
def D01 : OD := sa (sa D00 0 (fil 10 (-1) (fun _ => 0))) 1 (fil 10 (-1) (fun _ => 0))
theorem blk_pt {S : Sp} {D D' : OD} {l : PH} : pt S h.length D' (h ++ (blk S h.length D ++ l)) = h ++ (blk S h.length D' ++ l) := by
  apply List.ext_getElem?
  intro a
  rw [pt_get]
  by_cases c : h.length ≤ a ∧ a < h.length + sz S
  · have e := (At_iff.mp (At_blk (S := S) (D := D) (h := h) (l := l))) a c.1 c.2
    have e' := (At_iff.mp (At_blk (S := S) (D := D') (h := h) (l := l))) a c.1 c.2
    rw [e, e', Option.map_some, if_pos c]
  · have : (h ++ (blk S h.length D ++ l))[a]? = (h ++ (blk S h.length D' ++ l))[a]? := by
      rcases Nat.lt_or_ge a h.length with w | w
      · rw [List.getElem?_append_left w, List.getElem?_append_left w]
      · have w2 : sz S ≤ a - h.length := by omega
        rw [List.getElem?_append_right w, List.getElem?_append_right w, List.getElem?_append_right (by rw [blk_len]; exact w2), List.getElem?_append_right (by rw [blk_len]; exact w2), blk_len, blk_len]
    rw [this]
    cases (h ++ (blk S h.length D' ++ l))[a]? with
    | none => rfl
    | some x => rw [Option.map_some, if_neg c]
theorem blk_pt0 {S : Sp} {D D' : OD} : pt S h.length D' (h ++ blk S h.length D) = h ++ blk S h.length D' := by
  have := blk_pt (S := S) (D := D) (D' := D') (h := h) (l := [])
  rw [List.append_nil, List.append_nil] at this
  exact this
theorem c_init1 (hN : 2000 ≤ N) : f_X1_init N h.length (h ++ [.inr (1, n0X1)]) = some (h ++ blk sX1 h.length D01) := by
  unfold f_X1_init n0X1
  rw [al_I (by simp), al_I (by simp), al_I (by simp), al_I (by simp)]
  have a0 : At sX1 h.length D00 (h ++ blk sX1 h.length D00) := At_blk0
  have hF : h.length + 5 ≤ (h ++ blk sX1 h.length D00).length := a0.1
  have g0 : gfR 1 0 h.length (h ++ blk sX1 h.length D00) = some (pl h.length 0) := a0.gR rfl rfl
  show (gb (gfR 1 0 h.length (h ++ blk sX1 h.length D00)) fun zt13 => gb (f_J7_fill_53178 N zt13 (-1) (h ++ blk sX1 h.length D00)) fun zh14 => gb (gfR 1 1 h.length zh14) fun zt15 => gb (f_J7_fill_53178 N zt15 (-1) zh14) fun zh16 => some zh16) = _
  have k1 := c_fillO (N := N) (S := sX1) (D := D00) (j := 0) (v := -1) (n := 10) (by omega) hN a0.1 w1 rfl
  rw [a0.2] at k1
  have k2 := c_fillO (N := N) (S := sX1) (D := sa D00 0 (fil 10 (-1) (oa D00 0))) (j := 1) (v := -1) (n := 10) (by omega) hN a0.1 w1 rfl
  rw [g0, gb_s, k1, gb_s, (At_pt a0.1).gR (k := 1) rfl rfl, gb_s, k2, gb_s, blk_pt0]
  rfl
end CInit

