/-! The model: as it begins, whole -/
section MInit2
variable {N : Nat} {h : PH}
theorem m_ini_st : f_X12_init N h.length (h ++ [.inr (12, n0X12)]) = gb (gfR 12 17 h.length (h ++ blk sX12 h.length (sm D00 9 wW))) fun zt87 => gb (asI 0 zt87 0 (-1) (h ++ blk sX12 h.length (sm D00 9 wW))) fun zh88 => gb (pfV 12 18 h.length (.int 1) zh88) fun zh89 => some zh89 := by
  unfold f_X12_init n0X12
  rw [al_I (by simp), al_I (by simp), al_I (by simp), al_L (by simp), al_W (by simp)]
  simp only [List.length_append, List.length_cons, List.length_nil, List.set_cons_zero, List.set_cons_succ, List.nil_append, List.cons_append, Nat.reduceAdd, Nat.zero_add]
  rw [al_I (by simp), al_I (by simp), al_I (by simp), al_L (by simp), al_I (by simp), al_I (by simp)]
  simp only [List.length_append, List.length_cons, List.length_nil, List.set_cons_zero, List.set_cons_succ, List.nil_append, List.cons_append, Nat.reduceAdd, Nat.zero_add]
  rw [al_I (by simp), al_I (by simp), al_I (by simp), al_I (by simp), al_B (by simp), al_I (by simp)]
  simp only [List.length_append, List.length_cons, List.length_nil, List.set_cons_zero, List.set_cons_succ, List.nil_append, List.cons_append, Nat.reduceAdd, Nat.zero_add]
  rw [al_L (by simp), al_I (by simp), al_I (by simp), al_I (by simp), al_I (by simp), al_I (by simp), al_B (by simp)]
  simp only [List.length_append, List.length_cons, List.length_nil, List.set_cons_zero, List.set_cons_succ, List.nil_append, List.cons_append, Nat.reduceAdd, Nat.zero_add]
  have e : ∀ X : PH, X = blk sX12 h.length (sm D00 9 wW) → (gb (gfR 12 17 h.length (h ++ X)) fun zt87 => gb (asI 0 zt87 0 (-1) (h ++ X)) fun zh88 => gb (pfV 12 18 h.length (.int 1) zh88) fun zh89 => some zh89) = gb (gfR 12 17 h.length (h ++ blk sX12 h.length (sm D00 9 wW))) fun zt87 => gb (asI 0 zt87 0 (-1) (h ++ blk sX12 h.length (sm D00 9 wW))) fun zh88 => gb (pfV 12 18 h.length (.int 1) zh88) fun zh89 => some zh89 := fun X hX => by rw [hX]
  refine e _ ?_
  generalize h.length = p
  have d1 : ∀ k, oa (sm D00 9 wW) k = fun _ => 0 := fun _ => rfl
  have d2 : ∀ k, oi (sm D00 9 wW) k = 0 := fun _ => rfl
  have d3 : ∀ k, ol (sm D00 9 wW) k = 0 := fun _ => rfl
  have d4 : om (sm D00 9 wW) 9 = wW := by rw [om_sm, if_pos rfl]
  have d6 : om (sm D00 9 wW) 6 = fun _ => 0 := by rw [om_sm, if_neg (by decide)]; rfl
  have d7 : om (sm D00 9 wW) 14 = fun _ => 0 := by rw [om_sm, if_neg (by decide)]; rfl
  have d8 : om (sm D00 9 wW) 31 = fun _ => 0 := by rw [om_sm, if_neg (by decide)]; rfl
  generalize sm D00 9 wW = DM at d1 d2 d3 d4 d6 d7 d8
  have r25 : List.range (sz sX12) = [0, 1, 2, 3, 4, 5, 6, 7, 8, 9, 10, 11, 12, 13, 14, 15, 16, 17, 18, 19, 20, 21, 22, 23, 24] := by decide
  unfold blk
  rw [r25]
  simp only [List.map_cons, List.map_nil, bcell, sX12, List.mapIdx_cons, List.mapIdx_nil, Nat.reduceAdd, Nat.zero_add, fval, acell, List.getD_cons_zero, List.getD_cons_succ, d1, d2, d3, d4, d6, d7, d8, pl]
end MInit2

