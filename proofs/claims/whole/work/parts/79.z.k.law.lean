/-! The law's loop -/
section LawStep
variable {N L : Nat} {xs : Nat → Int32} {A : AA} {h : PH}
theorem scr_n {i : Nat} (hL : L ≤ 3584) (hi : i < L) : scr L xs (Int32.ofNat i) = some (xs i) := by
  unfold scr
  rw [if_pos, i_okc (by omega)]
  rw [i_okc (by omega), n_lt0 (by omega)]
  rintro (z | z)
  · exact z
  · omega
theorem lw_end {i : Nat} (hL : L ≤ 3584) (hi : i ≤ 4000) : (Int32.ofNat L - 7 < Int32.ofNat i) = (L < i + 7) := by
  have e7 : (7 : Int32).toInt = 7 := rfl
  rw [i_lt, i_subb (by rw [i_ok (by omega), e7]; omega) (by rw [i_ok (by omega), e7]; omega), i_ok (by omega), i_ok (by omega), e7]
  exact propext ⟨fun h => by omega, fun h => by omega⟩

theorem lw_0 (hN : 2000 ≤ N) (hL : L ≤ 3584) {i : Nat} (hi : i + 7 ≤ L) (q : INV A h) (zk : (Nat × Nat × Nat × Nat × Int32 × PH) → Option (Int32 × PH)) : ∃ A' h2, INV A' h2 ∧ (gb (scr L xs (Int32.ofNat i + 1)) fun a1 => gb (scr L xs (Int32.ofNat i + 2)) fun a2 => gb (scr L xs (Int32.ofNat i + 3)) fun a3 => gb (scr L xs (Int32.ofNat i + 4)) fun a4 => gb (scr L xs (Int32.ofNat i + 5)) fun a5 => gb (scr L xs (Int32.ofNat i + 6)) fun a6 => gg (gIs 11 0 h) <| gc (f_X11_feed N 0 (((Int32.toInt64 a1) <<< (Int32.toInt64 32 &&& 63)) ||| ((Int32.toInt64 a2) &&& 4294967295)) (((Int32.toInt64 a3) <<< (Int32.toInt64 32 &&& 63)) ||| ((Int32.toInt64 a4) &&& 4294967295)) (((Int32.toInt64 a5) <<< (Int32.toInt64 32 &&& 63)) ||| ((Int32.toInt64 a6) &&& 4294967295)) h) fun x h1 => gb (scr L xs (Int32.ofNat i + 1)) fun b1 => gb (scr L xs (Int32.ofNat i + 2)) fun b2 => gb (scr L xs (Int32.ofNat i + 3)) fun b3 => gb (scr L xs (Int32.ofNat i + 4)) fun b4 => gb (scr L xs (Int32.ofNat i + 5)) fun b5 => gb (scr L xs (Int32.ofNat i + 6)) fun b6 => gg (gIs 12 80 h1) <| gc (f_X12_feed N 80 (((Int32.toInt64 b1) <<< (Int32.toInt64 32 &&& 63)) ||| ((Int32.toInt64 b2) &&& 4294967295)) (((Int32.toInt64 b3) <<< (Int32.toInt64 32 &&& 63)) ||| ((Int32.toInt64 b4) &&& 4294967295)) (((Int32.toInt64 b5) <<< (Int32.toInt64 32 &&& 63)) ||| ((Int32.toInt64 b6) &&& 4294967295)) h1) fun y h2 => if x = y then f_L_law_1264 N L xs zk 0 0 80 105 (Int32.ofNat i) h2 else some (0, h2)) = zk (0, 0, 80, 105, Int32.ofNat (i + 7), h2) := by
  have s1 : scr L xs (Int32.ofNat i + 1) = some (xs (i + 1)) := by rw [show Int32.ofNat i + 1 = Int32.ofNat (i + 1) from n_add i 1]; exact scr_n hL (by omega)
  have s2 : scr L xs (Int32.ofNat i + 2) = some (xs (i + 2)) := by rw [show Int32.ofNat i + 2 = Int32.ofNat (i + 2) from n_add i 2]; exact scr_n hL (by omega)
  have s3 : scr L xs (Int32.ofNat i + 3) = some (xs (i + 3)) := by rw [show Int32.ofNat i + 3 = Int32.ofNat (i + 3) from n_add i 3]; exact scr_n hL (by omega)
  have s4 : scr L xs (Int32.ofNat i + 4) = some (xs (i + 4)) := by rw [show Int32.ofNat i + 4 = Int32.ofNat (i + 4) from n_add i 4]; exact scr_n hL (by omega)
  have s5 : scr L xs (Int32.ofNat i + 5) = some (xs (i + 5)) := by rw [show Int32.ofNat i + 5 = Int32.ofNat (i + 5) from n_add i 5]; exact scr_n hL (by omega)
  have s6 : scr L xs (Int32.ofNat i + 6) = some (xs (i + 6)) := by rw [show Int32.ofNat i + 6 = Int32.ofNat (i + 6) from n_add i 6]; exact scr_n hL (by omega)
  have is := q.2.1.is
  have e7 : Int32.ofNat i + 7 = Int32.ofNat (i + 7) := n_add i 7
  obtain ⟨h1, h2, t1, t2, t3, t4⟩ := stepI (feed_ok q.1 _ _ _) (c_feed hN q.1 (((Int32.toInt64 (xs (i + 1))) <<< (Int32.toInt64 32 &&& 63)) ||| ((Int32.toInt64 (xs (i + 2))) &&& 4294967295)) (((Int32.toInt64 (xs (i + 3))) <<< (Int32.toInt64 32 &&& 63)) ||| ((Int32.toInt64 (xs (i + 4))) &&& 4294967295)) (((Int32.toInt64 (xs (i + 5))) <<< (Int32.toInt64 32 &&& 63)) ||| ((Int32.toInt64 (xs (i + 6))) &&& 4294967295))) (m_feed hN q.1 (((Int32.toInt64 (xs (i + 1))) <<< (Int32.toInt64 32 &&& 63)) ||| ((Int32.toInt64 (xs (i + 2))) &&& 4294967295)) (((Int32.toInt64 (xs (i + 3))) <<< (Int32.toInt64 32 &&& 63)) ||| ((Int32.toInt64 (xs (i + 4))) &&& 4294967295)) (((Int32.toInt64 (xs (i + 5))) <<< (Int32.toInt64 32 &&& 63)) ||| ((Int32.toInt64 (xs (i + 6))) &&& 4294967295))) q
  refine ⟨_, h2, t4, ?_⟩
  unfold f_L_law_1264
  simp only [s1, s2, s3, s4, s5, s6, gb_s, is, gg_t, t1, gc_s, t2, t3, eq_self, if_true, gl_s, e7]
theorem lw_1 (hN : 2000 ≤ N) (hL : L ≤ 3584) {i : Nat} (hi : i + 7 ≤ L) (q : INV A h) (zk : (Nat × Nat × Nat × Nat × Int32 × PH) → Option (Int32 × PH)) : ∃ A' h2, INV A' h2 ∧ (gg (gIs 11 0 h) <| gc (f_X11_inn N 0 h) fun x h1 => gg (gIs 12 80 h1) <| gc (f_X12_inn N 80 h1) fun y h2 => if x = y then f_L_law_1264 N L xs zk 0 0 80 105 (Int32.ofNat i) h2 else some (0, h2)) = zk (0, 0, 80, 105, Int32.ofNat (i + 7), h2) := by
  have is := q.2.1.is
  have e7 : Int32.ofNat i + 7 = Int32.ofNat (i + 7) := n_add i 7
  obtain ⟨h1, h2, t1, t2, t3, t4⟩ := stepI (inn_ok q.1) (c_inn (N := N) hN q.1) (m_inn (N := N) hN q.1) q
  refine ⟨_, h2, t4, ?_⟩
  unfold f_L_law_1264
  simp only [gb_s, is, gg_t, t1, gc_s, t2, t3, cmp_self, eq_self, if_true, gl_s, e7]
theorem lw_2 (hN : 2000 ≤ N) (hL : L ≤ 3584) {i : Nat} (hi : i + 7 ≤ L) (q : INV A h) (zk : (Nat × Nat × Nat × Nat × Int32 × PH) → Option (Int32 × PH)) : ∃ A' h2, INV A' h2 ∧ (gb (scr L xs (Int32.ofNat i + 1)) fun a1 => gb (scr L xs (Int32.ofNat i + 2)) fun a2 => gg (gIs 11 0 h) <| gc (f_X11_room N 0 a1 a2 h) fun x h1 => gb (scr L xs (Int32.ofNat i + 1)) fun b1 => gb (scr L xs (Int32.ofNat i + 2)) fun b2 => gg (gIs 12 80 h1) <| gc (f_X12_room N 80 b1 b2 h1) fun y h2 => if x = y then f_L_law_1264 N L xs zk 0 0 80 105 (Int32.ofNat i) h2 else some (0, h2)) = zk (0, 0, 80, 105, Int32.ofNat (i + 7), h2) := by
  have s1 : scr L xs (Int32.ofNat i + 1) = some (xs (i + 1)) := by rw [show Int32.ofNat i + 1 = Int32.ofNat (i + 1) from n_add i 1]; exact scr_n hL (by omega)
  have s2 : scr L xs (Int32.ofNat i + 2) = some (xs (i + 2)) := by rw [show Int32.ofNat i + 2 = Int32.ofNat (i + 2) from n_add i 2]; exact scr_n hL (by omega)
  have is := q.2.1.is
  have e7 : Int32.ofNat i + 7 = Int32.ofNat (i + 7) := n_add i 7
  obtain ⟨h1, h2, t1, t2, t3, t4⟩ := stepI (q.1) (c_room (N := N) q.1 (xs (i + 1)) (xs (i + 2))) (m_room (N := N) hN q.1 (xs (i + 1)) (xs (i + 2))) q
  refine ⟨_, h2, t4, ?_⟩
  unfold f_L_law_1264
  simp only [s1, s2, gb_s, is, gg_t, t1, gc_s, t2, t3, cmp_self, eq_self, if_true, gl_s, e7]
theorem lw_3 (hN : 2000 ≤ N) (hL : L ≤ 3584) {i : Nat} (hi : i + 7 ≤ L) (q : INV A h) (zk : (Nat × Nat × Nat × Nat × Int32 × PH) → Option (Int32 × PH)) : ∃ A' h2, INV A' h2 ∧ (gb (scr L xs (Int32.ofNat i + 1)) fun a1 => gb (scr L xs (Int32.ofNat i + 2)) fun a2 => gg (gIs 11 0 h) <| gc (f_X11_guest N 0 a1 a2 h) fun x h1 => gb (scr L xs (Int32.ofNat i + 1)) fun b1 => gb (scr L xs (Int32.ofNat i + 2)) fun b2 => gg (gIs 12 80 h1) <| gc (f_X12_guest N 80 b1 b2 h1) fun y h2 => if x = y then f_L_law_1264 N L xs zk 0 0 80 105 (Int32.ofNat i) h2 else some (0, h2)) = zk (0, 0, 80, 105, Int32.ofNat (i + 7), h2) := by
  have s1 : scr L xs (Int32.ofNat i + 1) = some (xs (i + 1)) := by rw [show Int32.ofNat i + 1 = Int32.ofNat (i + 1) from n_add i 1]; exact scr_n hL (by omega)
  have s2 : scr L xs (Int32.ofNat i + 2) = some (xs (i + 2)) := by rw [show Int32.ofNat i + 2 = Int32.ofNat (i + 2) from n_add i 2]; exact scr_n hL (by omega)
  have is := q.2.1.is
  have e7 : Int32.ofNat i + 7 = Int32.ofNat (i + 7) := n_add i 7
  obtain ⟨h1, h2, t1, t2, t3, t4⟩ := stepI (q.1) (c_guest (N := N) q.1 (xs (i + 1)) (xs (i + 2))) (m_guest (N := N) hN q.1 (xs (i + 1)) (xs (i + 2))) q
  refine ⟨_, h2, t4, ?_⟩
  unfold f_L_law_1264
  simp only [s1, s2, gb_s, is, gg_t, t1, gc_s, t2, t3, cmp_self, eq_self, if_true, gl_s, e7]
theorem lw_4 (hN : 2000 ≤ N) (hL : L ≤ 3584) {i : Nat} (hi : i + 7 ≤ L) (q : INV A h) (zk : (Nat × Nat × Nat × Nat × Int32 × PH) → Option (Int32 × PH)) : ∃ A' h2, INV A' h2 ∧ (gb (scr L xs (Int32.ofNat i + 1)) fun a1 => gg (gIs 11 0 h) <| gc (f_X11_use N 0 a1 h) fun x h1 => gb (scr L xs (Int32.ofNat i + 1)) fun b1 => gg (gIs 12 80 h1) <| gc (f_X12_use N 80 b1 h1) fun y h2 => if x = y then f_L_law_1264 N L xs zk 0 0 80 105 (Int32.ofNat i) h2 else some (0, h2)) = zk (0, 0, 80, 105, Int32.ofNat (i + 7), h2) := by
  have s1 : scr L xs (Int32.ofNat i + 1) = some (xs (i + 1)) := by rw [show Int32.ofNat i + 1 = Int32.ofNat (i + 1) from n_add i 1]; exact scr_n hL (by omega)
  have is := q.2.1.is
  have e7 : Int32.ofNat i + 7 = Int32.ofNat (i + 7) := n_add i 7
  obtain ⟨h1, h2, t1, t2, t3, t4⟩ := stepI (use_ok q.1 (xs (i + 1))) (c_use (N := N) q.1 (xs (i + 1))) (m_use (N := N) q.1 (xs (i + 1))) q
  refine ⟨_, h2, t4, ?_⟩
  unfold f_L_law_1264
  simp only [s1, gb_s, is, gg_t, t1, gc_s, t2, t3, cmp_self, eq_self, if_true, gl_s, e7]
theorem lw_5 (hN : 2000 ≤ N) (hL : L ≤ 3584) {i : Nat} (hi : i + 7 ≤ L) (q : INV A h) (zk : (Nat × Nat × Nat × Nat × Int32 × PH) → Option (Int32 × PH)) : ∃ A' h2, INV A' h2 ∧ (gb (scr L xs (Int32.ofNat i + 1)) fun a1 => gb (scr L xs (Int32.ofNat i + 2)) fun a2 => gb (scr L xs (Int32.ofNat i + 3)) fun a3 => gc (f_L_gives N 0 a1 a2 a3 105 h) fun x h1 => gb (scr L xs (Int32.ofNat i + 1)) fun b1 => gb (scr L xs (Int32.ofNat i + 2)) fun b2 => gb (scr L xs (Int32.ofNat i + 3)) fun b3 => gg (gIs 12 80 h1) <| gc (f_X12_gives N 80 b1 b2 b3 h1) fun y h2 => gg (gIs 12 80 h2) <| gc (f_X12_thrown N 80 h2) fun z h3 => if z = x then (if x = 0 then gb (arL 1 105 0 h3) fun c => (if lg_cmp c (Int32.toInt64 y) = 0 then f_L_law_512 N L xs zk 0 0 80 105 (Int32.ofNat i) h3 else some (0, h3)) else f_L_law_512 N L xs zk 0 0 80 105 (Int32.ofNat i) h3) else some (0, h3)) = zk (0, 0, 80, 105, Int32.ofNat (i + 7), h2) := by
  have s1 : scr L xs (Int32.ofNat i + 1) = some (xs (i + 1)) := by rw [show Int32.ofNat i + 1 = Int32.ofNat (i + 1) from n_add i 1]; exact scr_n hL (by omega)
  have s2 : scr L xs (Int32.ofNat i + 2) = some (xs (i + 2)) := by rw [show Int32.ofNat i + 2 = Int32.ofNat (i + 2) from n_add i 2]; exact scr_n hL (by omega)
  have s3 : scr L xs (Int32.ofNat i + 3) = some (xs (i + 3)) := by rw [show Int32.ofNat i + 3 = Int32.ofNat (i + 3) from n_add i 3]; exact scr_n hL (by omega)
  have e7 : Int32.ofNat i + 7 = Int32.ofNat (i + 7) := n_add i 7
  obtain ⟨h1, h2, k, t1, t2, t3, t4, t5, t6, t7⟩ := stepG hN q (xs (i + 1)) (xs (i + 2)) (xs (i + 3))
  refine ⟨_, h2, t7, ?_⟩
  unfold f_L_law_512 f_L_law_1264
  rcases t6 with u | ⟨u, t8⟩
  · subst u
    have n1 : ((1 : Int32) = 0) = False := eq_false (by decide)
    simp only [s1, s2, s3, gb_s, gg_t, t1, gc_s, t2, t3, t4, t5, eq_self, if_true, n1, if_false, gl_s, e7]
  · subst u
    simp only [s1, s2, s3, gb_s, gg_t, t1, gc_s, t2, t3, t4, t5, t8, cmp_self, eq_self, if_true, gl_s, e7]
theorem lw_6 (hN : 2000 ≤ N) (hL : L ≤ 3584) {i : Nat} (hi : i + 7 ≤ L) (q : INV A h) (zk : (Nat × Nat × Nat × Nat × Int32 × PH) → Option (Int32 × PH)) : ∃ A' h2, INV A' h2 ∧ (gb (scr L xs (Int32.ofNat i + 1)) fun a1 => gb (scr L xs (Int32.ofNat i + 2)) fun a2 => gg (gIs 11 0 h) <| gc (f_X11_come N 0 a1 a2 h) fun x h1 => gb (scr L xs (Int32.ofNat i + 1)) fun b1 => gb (scr L xs (Int32.ofNat i + 2)) fun b2 => gg (gIs 12 80 h1) <| gc (f_X12_come N 80 b1 b2 h1) fun y h2 => if x = y then f_L_law_1264 N L xs zk 0 0 80 105 (Int32.ofNat i) h2 else some (0, h2)) = zk (0, 0, 80, 105, Int32.ofNat (i + 7), h2) := by
  have s1 : scr L xs (Int32.ofNat i + 1) = some (xs (i + 1)) := by rw [show Int32.ofNat i + 1 = Int32.ofNat (i + 1) from n_add i 1]; exact scr_n hL (by omega)
  have s2 : scr L xs (Int32.ofNat i + 2) = some (xs (i + 2)) := by rw [show Int32.ofNat i + 2 = Int32.ofNat (i + 2) from n_add i 2]; exact scr_n hL (by omega)
  have is := q.2.1.is
  have e7 : Int32.ofNat i + 7 = Int32.ofNat (i + 7) := n_add i 7
  obtain ⟨h1, h2, t1, t2, t3, t4⟩ := stepI (tell_ok q.1) (c_come (N := N) hN q.1 (xs (i + 1)) (xs (i + 2))) (m_come (N := N) hN q.1 (xs (i + 1)) (xs (i + 2))) q
  refine ⟨_, h2, t4, ?_⟩
  unfold f_L_law_1264
  simp only [s1, s2, gb_s, is, gg_t, t1, gc_s, t2, t3, cmp_self, eq_self, if_true, gl_s, e7]
theorem lw_7 (hN : 2000 ≤ N) (hL : L ≤ 3584) {i : Nat} (hi : i + 7 ≤ L) (q : INV A h) (zk : (Nat × Nat × Nat × Nat × Int32 × PH) → Option (Int32 × PH)) : ∃ A' h2, INV A' h2 ∧ (gb (scr L xs (Int32.ofNat i + 1)) fun a1 => gb (scr L xs (Int32.ofNat i + 2)) fun a2 => gg (gIs 11 0 h) <| gc (f_X11_leave N 0 a1 a2 h) fun x h1 => gb (scr L xs (Int32.ofNat i + 1)) fun b1 => gb (scr L xs (Int32.ofNat i + 2)) fun b2 => gg (gIs 12 80 h1) <| gc (f_X12_leave N 80 b1 b2 h1) fun y h2 => if x = y then f_L_law_1264 N L xs zk 0 0 80 105 (Int32.ofNat i) h2 else some (0, h2)) = zk (0, 0, 80, 105, Int32.ofNat (i + 7), h2) := by
  have s1 : scr L xs (Int32.ofNat i + 1) = some (xs (i + 1)) := by rw [show Int32.ofNat i + 1 = Int32.ofNat (i + 1) from n_add i 1]; exact scr_n hL (by omega)
  have s2 : scr L xs (Int32.ofNat i + 2) = some (xs (i + 2)) := by rw [show Int32.ofNat i + 2 = Int32.ofNat (i + 2) from n_add i 2]; exact scr_n hL (by omega)
  have is := q.2.1.is
  have e7 : Int32.ofNat i + 7 = Int32.ofNat (i + 7) := n_add i 7
  obtain ⟨h1, h2, t1, t2, t3, t4⟩ := stepI (tell_ok q.1) (c_leave (N := N) hN q.1 (xs (i + 1)) (xs (i + 2))) (m_leave (N := N) hN q.1 (xs (i + 1)) (xs (i + 2))) q
  refine ⟨_, h2, t4, ?_⟩
  unfold f_L_law_1264
  simp only [s1, s2, gb_s, is, gg_t, t1, gc_s, t2, t3, cmp_self, eq_self, if_true, gl_s, e7]
theorem lw_8 (hN : 2000 ≤ N) (hL : L ≤ 3584) {i : Nat} (hi : i + 7 ≤ L) (q : INV A h) (zk : (Nat × Nat × Nat × Nat × Int32 × PH) → Option (Int32 × PH)) : ∃ A' h2, INV A' h2 ∧ (gg (gIs 11 0 h) <| gc (f_X11_over N 0 h) fun x h1 => gg (gIs 12 80 h1) <| gc (f_X12_over N 80 h1) fun y h2 => if x = y then f_L_law_1264 N L xs zk 0 0 80 105 (Int32.ofNat i) h2 else some (0, h2)) = zk (0, 0, 80, 105, Int32.ofNat (i + 7), h2) := by
  have is := q.2.1.is
  have e7 : Int32.ofNat i + 7 = Int32.ofNat (i + 7) := n_add i 7
  obtain ⟨h1, h2, t1, t2, t3, t4⟩ := stepI (q.1) (c_over (N := N)) (m_over (N := N) hN q.1) q
  refine ⟨_, h2, t4, ?_⟩
  unfold f_L_law_1264
  simp only [gb_s, is, gg_t, t1, gc_s, t2, t3, cmp_self, eq_self, if_true, gl_s, e7]
theorem lw_9 (hN : 2000 ≤ N) (hL : L ≤ 3584) {i : Nat} (hi : i + 7 ≤ L) (q : INV A h) (zk : (Nat × Nat × Nat × Nat × Int32 × PH) → Option (Int32 × PH)) : ∃ A' h2, INV A' h2 ∧ (gb (scr L xs (Int32.ofNat i + 1)) fun a1 => gg (gIs 11 0 h) <| gc (f_X11_sum N 0 a1 h) fun x h1 => gb (scr L xs (Int32.ofNat i + 1)) fun b1 => gg (gIs 12 80 h1) <| gc (f_X12_sum N 80 b1 h1) fun y h2 => if x = y then f_L_law_1264 N L xs zk 0 0 80 105 (Int32.ofNat i) h2 else some (0, h2)) = zk (0, 0, 80, 105, Int32.ofNat (i + 7), h2) := by
  have s1 : scr L xs (Int32.ofNat i + 1) = some (xs (i + 1)) := by rw [show Int32.ofNat i + 1 = Int32.ofNat (i + 1) from n_add i 1]; exact scr_n hL (by omega)
  have is := q.2.1.is
  have e7 : Int32.ofNat i + 7 = Int32.ofNat (i + 7) := n_add i 7
  obtain ⟨h1, h2, t1, t2, t3, t4⟩ := stepI (q.1) (c_sum (N := N) (xs (i + 1))) (m_sum (N := N) hN q.1 (xs (i + 1))) q
  refine ⟨_, h2, t4, ?_⟩
  unfold f_L_law_1264
  simp only [s1, gb_s, is, gg_t, t1, gc_s, t2, t3, cmp_self, eq_self, if_true, gl_s, e7]
theorem lw_10 (hN : 2000 ≤ N) (hL : L ≤ 3584) {i : Nat} (hi : i + 7 ≤ L) (q : INV A h) (zk : (Nat × Nat × Nat × Nat × Int32 × PH) → Option (Int32 × PH)) : ∃ A' h2, INV A' h2 ∧ (gb (scr L xs (Int32.ofNat i + 1)) fun a1 => gb (scr L xs (Int32.ofNat i + 2)) fun a2 => gg (gIs 11 0 h) <| gc (f_X11_where N 0 a1 a2 h) fun x h1 => gb (scr L xs (Int32.ofNat i + 1)) fun b1 => gb (scr L xs (Int32.ofNat i + 2)) fun b2 => gg (gIs 12 80 h1) <| gc (f_X12_where N 80 b1 b2 h1) fun y h2 => if x = y then f_L_law_1264 N L xs zk 0 0 80 105 (Int32.ofNat i) h2 else some (0, h2)) = zk (0, 0, 80, 105, Int32.ofNat (i + 7), h2) := by
  have s1 : scr L xs (Int32.ofNat i + 1) = some (xs (i + 1)) := by rw [show Int32.ofNat i + 1 = Int32.ofNat (i + 1) from n_add i 1]; exact scr_n hL (by omega)
  have s2 : scr L xs (Int32.ofNat i + 2) = some (xs (i + 2)) := by rw [show Int32.ofNat i + 2 = Int32.ofNat (i + 2) from n_add i 2]; exact scr_n hL (by omega)
  have is := q.2.1.is
  have e7 : Int32.ofNat i + 7 = Int32.ofNat (i + 7) := n_add i 7
  obtain ⟨h1, h2, t1, t2, t3, t4⟩ := stepI (q.1) (c_where (N := N) hN q.1 (xs (i + 1)) (xs (i + 2))) (m_where (N := N) hN q.1 (xs (i + 1)) (xs (i + 2))) q
  refine ⟨_, h2, t4, ?_⟩
  unfold f_L_law_1264
  simp only [s1, s2, gb_s, is, gg_t, t1, gc_s, t2, t3, cmp_self, eq_self, if_true, gl_s, e7]
theorem lw_11 (hN : 2000 ≤ N) (hL : L ≤ 3584) {i : Nat} (hi : i + 7 ≤ L) (q : INV A h) (zk : (Nat × Nat × Nat × Nat × Int32 × PH) → Option (Int32 × PH)) : ∃ A' h2, INV A' h2 ∧ (gb (scr L xs (Int32.ofNat i + 1)) fun a1 => gb (scr L xs (Int32.ofNat i + 2)) fun a2 => gg (gIs 11 0 h) <| gc (f_X11_who N 0 a1 a2 h) fun x h1 => gb (scr L xs (Int32.ofNat i + 1)) fun b1 => gb (scr L xs (Int32.ofNat i + 2)) fun b2 => gg (gIs 12 80 h1) <| gc (f_X12_who N 80 b1 b2 h1) fun y h2 => if x = y then f_L_law_1264 N L xs zk 0 0 80 105 (Int32.ofNat i) h2 else some (0, h2)) = zk (0, 0, 80, 105, Int32.ofNat (i + 7), h2) := by
  have s1 : scr L xs (Int32.ofNat i + 1) = some (xs (i + 1)) := by rw [show Int32.ofNat i + 1 = Int32.ofNat (i + 1) from n_add i 1]; exact scr_n hL (by omega)
  have s2 : scr L xs (Int32.ofNat i + 2) = some (xs (i + 2)) := by rw [show Int32.ofNat i + 2 = Int32.ofNat (i + 2) from n_add i 2]; exact scr_n hL (by omega)
  have is := q.2.1.is
  have e7 : Int32.ofNat i + 7 = Int32.ofNat (i + 7) := n_add i 7
  obtain ⟨h1, h2, t1, t2, t3, t4⟩ := stepI (q.1) (c_who (N := N) hN q.1 (xs (i + 1)) (xs (i + 2))) (m_who (N := N) hN q.1 (xs (i + 1)) (xs (i + 2))) q
  refine ⟨_, h2, t4, ?_⟩
  unfold f_L_law_1264
  simp only [s1, s2, gb_s, is, gg_t, t1, gc_s, t2, t3, cmp_self, eq_self, if_true, gl_s, e7]
theorem lw_12 (hN : 2000 ≤ N) (hL : L ≤ 3584) {i : Nat} (hi : i + 7 ≤ L) (q : INV A h) (zk : (Nat × Nat × Nat × Nat × Int32 × PH) → Option (Int32 × PH)) : ∃ A' h2, INV A' h2 ∧ (gb (scr L xs (Int32.ofNat i + 1)) fun a1 => gb (scr L xs (Int32.ofNat i + 2)) fun a2 => gb (scr L xs (Int32.ofNat i + 3)) fun a3 => gg (gIs 11 0 h) <| gc (f_X11_letter N 0 a1 a2 a3 h) fun x h1 => gb (scr L xs (Int32.ofNat i + 1)) fun b1 => gb (scr L xs (Int32.ofNat i + 2)) fun b2 => gb (scr L xs (Int32.ofNat i + 3)) fun b3 => gg (gIs 12 80 h1) <| gc (f_X12_letter N 80 b1 b2 b3 h1) fun y h2 => if x = y then f_L_law_1264 N L xs zk 0 0 80 105 (Int32.ofNat i) h2 else some (0, h2)) = zk (0, 0, 80, 105, Int32.ofNat (i + 7), h2) := by
  have s1 : scr L xs (Int32.ofNat i + 1) = some (xs (i + 1)) := by rw [show Int32.ofNat i + 1 = Int32.ofNat (i + 1) from n_add i 1]; exact scr_n hL (by omega)
  have s2 : scr L xs (Int32.ofNat i + 2) = some (xs (i + 2)) := by rw [show Int32.ofNat i + 2 = Int32.ofNat (i + 2) from n_add i 2]; exact scr_n hL (by omega)
  have s3 : scr L xs (Int32.ofNat i + 3) = some (xs (i + 3)) := by rw [show Int32.ofNat i + 3 = Int32.ofNat (i + 3) from n_add i 3]; exact scr_n hL (by omega)
  have is := q.2.1.is
  have e7 : Int32.ofNat i + 7 = Int32.ofNat (i + 7) := n_add i 7
  obtain ⟨h1, h2, t1, t2, t3, t4⟩ := stepI (q.1) (c_letter (N := N) hN q.1 (xs (i + 1)) (xs (i + 2)) (xs (i + 3))) (m_letter (N := N) hN q.1 (xs (i + 1)) (xs (i + 2)) (xs (i + 3))) q
  refine ⟨_, h2, t4, ?_⟩
  unfold f_L_law_1264
  simp only [s1, s2, s3, gb_s, is, gg_t, t1, gc_s, t2, t3, cmp_self, eq_self, if_true, gl_s, e7]
theorem lw_13 (hN : 2000 ≤ N) (hL : L ≤ 3584) {i : Nat} (hi : i + 7 ≤ L) (q : INV A h) (zk : (Nat × Nat × Nat × Nat × Int32 × PH) → Option (Int32 × PH)) : ∃ A' h2, INV A' h2 ∧ (gb (scr L xs (Int32.ofNat i + 1)) fun a1 => gb (scr L xs (Int32.ofNat i + 2)) fun a2 => gb (scr L xs (Int32.ofNat i + 3)) fun a3 => gg (gIs 11 0 h) <| gc (f_X11_trunk N 0 a1 a2 a3 h) fun x h1 => gb (scr L xs (Int32.ofNat i + 1)) fun b1 => gb (scr L xs (Int32.ofNat i + 2)) fun b2 => gb (scr L xs (Int32.ofNat i + 3)) fun b3 => gg (gIs 12 80 h1) <| gc (f_X12_trunk N 80 b1 b2 b3 h1) fun y h2 => if x = y then f_L_law_1264 N L xs zk 0 0 80 105 (Int32.ofNat i) h2 else some (0, h2)) = zk (0, 0, 80, 105, Int32.ofNat (i + 7), h2) := by
  have s1 : scr L xs (Int32.ofNat i + 1) = some (xs (i + 1)) := by rw [show Int32.ofNat i + 1 = Int32.ofNat (i + 1) from n_add i 1]; exact scr_n hL (by omega)
  have s2 : scr L xs (Int32.ofNat i + 2) = some (xs (i + 2)) := by rw [show Int32.ofNat i + 2 = Int32.ofNat (i + 2) from n_add i 2]; exact scr_n hL (by omega)
  have s3 : scr L xs (Int32.ofNat i + 3) = some (xs (i + 3)) := by rw [show Int32.ofNat i + 3 = Int32.ofNat (i + 3) from n_add i 3]; exact scr_n hL (by omega)
  have is := q.2.1.is
  have e7 : Int32.ofNat i + 7 = Int32.ofNat (i + 7) := n_add i 7
  obtain ⟨h1, h2, t1, t2, t3, t4⟩ := stepI (q.1) (c_trunk (N := N) hN q.1 (xs (i + 1)) (xs (i + 2)) (xs (i + 3))) (m_trunkQ (N := N) hN q.1 (xs (i + 1)) (xs (i + 2)) (xs (i + 3))) q
  refine ⟨_, h2, t4, ?_⟩
  unfold f_L_law_1264
  simp only [s1, s2, s3, gb_s, is, gg_t, t1, gc_s, t2, t3, cmp_self, eq_self, if_true, gl_s, e7]
theorem lw_14 (hN : 2000 ≤ N) (hL : L ≤ 3584) {i : Nat} (hi : i + 7 ≤ L) (q : INV A h) (zk : (Nat × Nat × Nat × Nat × Int32 × PH) → Option (Int32 × PH)) : ∃ A' h2, INV A' h2 ∧ (gb (scr L xs (Int32.ofNat i + 1)) fun a1 => gb (scr L xs (Int32.ofNat i + 2)) fun a2 => gb (scr L xs (Int32.ofNat i + 3)) fun a3 => gg (gIs 11 0 h) <| gc (f_X11_sight N 0 a1 a2 a3 h) fun x h1 => gb (scr L xs (Int32.ofNat i + 1)) fun b1 => gb (scr L xs (Int32.ofNat i + 2)) fun b2 => gb (scr L xs (Int32.ofNat i + 3)) fun b3 => gg (gIs 12 80 h1) <| gc (f_X12_sight N 80 b1 b2 b3 h1) fun y h2 => if x = y then f_L_law_1264 N L xs zk 0 0 80 105 (Int32.ofNat i) h2 else some (0, h2)) = zk (0, 0, 80, 105, Int32.ofNat (i + 7), h2) := by
  have s1 : scr L xs (Int32.ofNat i + 1) = some (xs (i + 1)) := by rw [show Int32.ofNat i + 1 = Int32.ofNat (i + 1) from n_add i 1]; exact scr_n hL (by omega)
  have s2 : scr L xs (Int32.ofNat i + 2) = some (xs (i + 2)) := by rw [show Int32.ofNat i + 2 = Int32.ofNat (i + 2) from n_add i 2]; exact scr_n hL (by omega)
  have s3 : scr L xs (Int32.ofNat i + 3) = some (xs (i + 3)) := by rw [show Int32.ofNat i + 3 = Int32.ofNat (i + 3) from n_add i 3]; exact scr_n hL (by omega)
  have is := q.2.1.is
  have e7 : Int32.ofNat i + 7 = Int32.ofNat (i + 7) := n_add i 7
  obtain ⟨h1, h2, t1, t2, t3, t4⟩ := stepI (sight_ok q.1 (xs (i + 1)) (xs (i + 2)) (xs (i + 3))) (c_sight (N := N) hN q.1 (xs (i + 1)) (xs (i + 2)) (xs (i + 3))) (m_sight (N := N) q.1 (xs (i + 1)) (xs (i + 2)) (xs (i + 3))) q
  refine ⟨_, h2, t4, ?_⟩
  unfold f_L_law_1264
  simp only [s1, s2, s3, gb_s, is, gg_t, t1, gc_s, t2, t3, cmp_self, eq_self, if_true, gl_s, e7]
theorem lw_15 (hN : 2000 ≤ N) (hL : L ≤ 3584) {i : Nat} (hi : i + 7 ≤ L) (q : INV A h) (zk : (Nat × Nat × Nat × Nat × Int32 × PH) → Option (Int32 × PH)) : ∃ A' h2, INV A' h2 ∧ (gb (scr L xs (Int32.ofNat i + 1)) fun a1 => gb (scr L xs (Int32.ofNat i + 2)) fun a2 => gg (gIs 11 0 h) <| gc (f_X11_could N 0 a1 a2 h) fun x h1 => gb (scr L xs (Int32.ofNat i + 1)) fun b1 => gb (scr L xs (Int32.ofNat i + 2)) fun b2 => gg (gIs 12 80 h1) <| gc (f_X12_could N 80 b1 b2 h1) fun y h2 => if x = y then f_L_law_1264 N L xs zk 0 0 80 105 (Int32.ofNat i) h2 else some (0, h2)) = zk (0, 0, 80, 105, Int32.ofNat (i + 7), h2) := by
  have s1 : scr L xs (Int32.ofNat i + 1) = some (xs (i + 1)) := by rw [show Int32.ofNat i + 1 = Int32.ofNat (i + 1) from n_add i 1]; exact scr_n hL (by omega)
  have s2 : scr L xs (Int32.ofNat i + 2) = some (xs (i + 2)) := by rw [show Int32.ofNat i + 2 = Int32.ofNat (i + 2) from n_add i 2]; exact scr_n hL (by omega)
  have is := q.2.1.is
  have e7 : Int32.ofNat i + 7 = Int32.ofNat (i + 7) := n_add i 7
  obtain ⟨h1, h2, t1, t2, t3, t4⟩ := stepI (q.1) (c_could (N := N) hN q.1 (xs (i + 1)) (xs (i + 2))) (m_could (N := N) hN q.1 (xs (i + 1)) (xs (i + 2))) q
  refine ⟨_, h2, t4, ?_⟩
  unfold f_L_law_1264
  simp only [s1, s2, gb_s, is, gg_t, t1, gc_s, t2, t3, cmp_self, eq_self, if_true, gl_s, e7]
theorem lw_16 (hN : 2000 ≤ N) (hL : L ≤ 3584) {i : Nat} (hi : i + 7 ≤ L) (q : INV A h) (zk : (Nat × Nat × Nat × Nat × Int32 × PH) → Option (Int32 × PH)) : ∃ A' h2, INV A' h2 ∧ (gg (gIs 11 0 h) <| gc (f_X11_liars N 0 h) fun x h1 => gg (gIs 12 80 h1) <| gc (f_X12_liars N 80 h1) fun y h2 => if x = y then f_L_law_1264 N L xs zk 0 0 80 105 (Int32.ofNat i) h2 else some (0, h2)) = zk (0, 0, 80, 105, Int32.ofNat (i + 7), h2) := by
  have is := q.2.1.is
  have e7 : Int32.ofNat i + 7 = Int32.ofNat (i + 7) := n_add i 7
  obtain ⟨h1, h2, t1, t2, t3, t4⟩ := stepI (q.1) (c_liars (N := N) hN q.1) (m_liars (N := N) hN q.1) q
  refine ⟨_, h2, t4, ?_⟩
  unfold f_L_law_1264
  simp only [gb_s, is, gg_t, t1, gc_s, t2, t3, cmp_self, eq_self, if_true, gl_s, e7]
theorem lw_17 (hN : 2000 ≤ N) (hL : L ≤ 3584) {i : Nat} (hi : i + 7 ≤ L) (q : INV A h) (zk : (Nat × Nat × Nat × Nat × Int32 × PH) → Option (Int32 × PH)) : ∃ A' h2, INV A' h2 ∧ (gb (scr L xs (Int32.ofNat i + 1)) fun a1 => gb (scr L xs (Int32.ofNat i + 2)) fun a2 => gg (gIs 11 0 h) <| gc (f_X11_page N 0 a1 a2 h) fun x h1 => gb (scr L xs (Int32.ofNat i + 1)) fun b1 => gb (scr L xs (Int32.ofNat i + 2)) fun b2 => gg (gIs 12 80 h1) <| gc (f_X12_page N 80 b1 b2 h1) fun y h2 => if x = y then f_L_law_1264 N L xs zk 0 0 80 105 (Int32.ofNat i) h2 else some (0, h2)) = zk (0, 0, 80, 105, Int32.ofNat (i + 7), h2) := by
  have s1 : scr L xs (Int32.ofNat i + 1) = some (xs (i + 1)) := by rw [show Int32.ofNat i + 1 = Int32.ofNat (i + 1) from n_add i 1]; exact scr_n hL (by omega)
  have s2 : scr L xs (Int32.ofNat i + 2) = some (xs (i + 2)) := by rw [show Int32.ofNat i + 2 = Int32.ofNat (i + 2) from n_add i 2]; exact scr_n hL (by omega)
  have is := q.2.1.is
  have e7 : Int32.ofNat i + 7 = Int32.ofNat (i + 7) := n_add i 7
  obtain ⟨h1, h2, t1, t2, t3, t4⟩ := stepI (page_ok q.1 (xs (i + 1)) (xs (i + 2))) (c_page (N := N) hN q.1 (xs (i + 1)) (xs (i + 2))) (m_page (N := N) hN q.1 (xs (i + 1)) (xs (i + 2))) q
  refine ⟨_, h2, t4, ?_⟩
  unfold f_L_law_1264
  simp only [s1, s2, gb_s, is, gg_t, t1, gc_s, t2, t3, cmp_self, eq_self, if_true, gl_s, e7]
theorem lw_18 (hN : 2000 ≤ N) (hL : L ≤ 3584) {i : Nat} (hi : i + 7 ≤ L) (q : INV A h) (zk : (Nat × Nat × Nat × Nat × Int32 × PH) → Option (Int32 × PH)) : ∃ A' h2, INV A' h2 ∧ (gg (gIs 11 0 h) <| gc (f_X11_ways N 0 h) fun x h1 => gg (gIs 12 80 h1) <| gc (f_X12_ways N 80 h1) fun y h2 => if lg_cmp x y = 0 then f_L_law_1264 N L xs zk 0 0 80 105 (Int32.ofNat i) h2 else some (0, h2)) = zk (0, 0, 80, 105, Int32.ofNat (i + 7), h2) := by
  have is := q.2.1.is
  have e7 : Int32.ofNat i + 7 = Int32.ofNat (i + 7) := n_add i 7
  obtain ⟨h1, h2, t1, t2, t3, t4⟩ := stepL (q.1) (c_waysQ (N := N) hN q.1) (m_waysQ (N := N) hN q.1) q
  refine ⟨_, h2, t4, ?_⟩
  unfold f_L_law_1264
  simp only [gb_s, is, gg_t, t1, gc_s, t2, t3, cmp_self, eq_self, if_true, gl_s, e7]
theorem lw_19 (hN : 2000 ≤ N) (hL : L ≤ 3584) {i : Nat} (hi : i + 7 ≤ L) (q : INV A h) (zk : (Nat × Nat × Nat × Nat × Int32 × PH) → Option (Int32 × PH)) : ∃ A' h2, INV A' h2 ∧ (gb (scr L xs (Int32.ofNat i + 1)) fun a1 => gg (gIs 11 0 h) <| gc (f_X11_sure N 0 a1 h) fun x h1 => gb (scr L xs (Int32.ofNat i + 1)) fun b1 => gg (gIs 12 80 h1) <| gc (f_X12_sure N 80 b1 h1) fun y h2 => if x = y then f_L_law_1264 N L xs zk 0 0 80 105 (Int32.ofNat i) h2 else some (0, h2)) = zk (0, 0, 80, 105, Int32.ofNat (i + 7), h2) := by
  have s1 : scr L xs (Int32.ofNat i + 1) = some (xs (i + 1)) := by rw [show Int32.ofNat i + 1 = Int32.ofNat (i + 1) from n_add i 1]; exact scr_n hL (by omega)
  have is := q.2.1.is
  have e7 : Int32.ofNat i + 7 = Int32.ofNat (i + 7) := n_add i 7
  obtain ⟨h1, h2, t1, t2, t3, t4⟩ := stepI (q.1) (c_sure (N := N) hN q.1 (xs (i + 1))) (m_sure (N := N) hN q.1 (xs (i + 1))) q
  refine ⟨_, h2, t4, ?_⟩
  unfold f_L_law_1264
  simp only [s1, gb_s, is, gg_t, t1, gc_s, t2, t3, cmp_self, eq_self, if_true, gl_s, e7]
theorem lw_20 (hN : 2000 ≤ N) (hL : L ≤ 3584) {i : Nat} (hi : i + 7 ≤ L) (q : INV A h) (zk : (Nat × Nat × Nat × Nat × Int32 × PH) → Option (Int32 × PH)) : ∃ A' h2, INV A' h2 ∧ (gb (scr L xs (Int32.ofNat i + 1)) fun a1 => gb (scr L xs (Int32.ofNat i + 2)) fun a2 => gb (scr L xs (Int32.ofNat i + 3)) fun a3 => gg (gIs 11 0 h) <| gc (f_X11_job N 0 a1 a2 a3 h) fun x h1 => gb (scr L xs (Int32.ofNat i + 1)) fun b1 => gb (scr L xs (Int32.ofNat i + 2)) fun b2 => gb (scr L xs (Int32.ofNat i + 3)) fun b3 => gg (gIs 12 80 h1) <| gc (f_X12_job N 80 b1 b2 b3 h1) fun y h2 => if x = y then f_L_law_1264 N L xs zk 0 0 80 105 (Int32.ofNat i) h2 else some (0, h2)) = zk (0, 0, 80, 105, Int32.ofNat (i + 7), h2) := by
  have s1 : scr L xs (Int32.ofNat i + 1) = some (xs (i + 1)) := by rw [show Int32.ofNat i + 1 = Int32.ofNat (i + 1) from n_add i 1]; exact scr_n hL (by omega)
  have s2 : scr L xs (Int32.ofNat i + 2) = some (xs (i + 2)) := by rw [show Int32.ofNat i + 2 = Int32.ofNat (i + 2) from n_add i 2]; exact scr_n hL (by omega)
  have s3 : scr L xs (Int32.ofNat i + 3) = some (xs (i + 3)) := by rw [show Int32.ofNat i + 3 = Int32.ofNat (i + 3) from n_add i 3]; exact scr_n hL (by omega)
  have is := q.2.1.is
  have e7 : Int32.ofNat i + 7 = Int32.ofNat (i + 7) := n_add i 7
  obtain ⟨h1, h2, t1, t2, t3, t4⟩ := stepI (job_ok q.1 (xs (i + 1)) (xs (i + 2)) (xs (i + 3))) (c_job (N := N) q.1 (xs (i + 1)) (xs (i + 2)) (xs (i + 3))) (m_job (N := N) q.1 (xs (i + 1)) (xs (i + 2)) (xs (i + 3))) q
  refine ⟨_, h2, t4, ?_⟩
  unfold f_L_law_1264
  simp only [s1, s2, s3, gb_s, is, gg_t, t1, gc_s, t2, t3, cmp_self, eq_self, if_true, gl_s, e7]
theorem lw_21 (hN : 2000 ≤ N) (hL : L ≤ 3584) {i : Nat} (hi : i + 7 ≤ L) (q : INV A h) (zk : (Nat × Nat × Nat × Nat × Int32 × PH) → Option (Int32 × PH)) : ∃ A' h2, INV A' h2 ∧ (gb (scr L xs (Int32.ofNat i + 1)) fun a1 => gg (gIs 11 0 h) <| gc (f_X11_porters N 0 a1 h) fun x h1 => gb (scr L xs (Int32.ofNat i + 1)) fun b1 => gg (gIs 12 80 h1) <| gc (f_X12_porters N 80 b1 h1) fun y h2 => if x = y then f_L_law_1264 N L xs zk 0 0 80 105 (Int32.ofNat i) h2 else some (0, h2)) = zk (0, 0, 80, 105, Int32.ofNat (i + 7), h2) := by
  have s1 : scr L xs (Int32.ofNat i + 1) = some (xs (i + 1)) := by rw [show Int32.ofNat i + 1 = Int32.ofNat (i + 1) from n_add i 1]; exact scr_n hL (by omega)
  have is := q.2.1.is
  have e7 : Int32.ofNat i + 7 = Int32.ofNat (i + 7) := n_add i 7
  obtain ⟨h1, h2, t1, t2, t3, t4⟩ := stepI (q.1) (c_porters (N := N) hN q.1 (xs (i + 1))) (m_porters (N := N) hN q.1 (xs (i + 1))) q
  refine ⟨_, h2, t4, ?_⟩
  unfold f_L_law_1264
  simp only [s1, gb_s, is, gg_t, t1, gc_s, t2, t3, cmp_self, eq_self, if_true, gl_s, e7]
theorem lw_22 (hN : 2000 ≤ N) (hL : L ≤ 3584) {i : Nat} (hi : i + 7 ≤ L) (q : INV A h) (zk : (Nat × Nat × Nat × Nat × Int32 × PH) → Option (Int32 × PH)) : ∃ A' h2, INV A' h2 ∧ (gg (gIs 11 0 h) <| gc (f_X11_told N 0 h) fun x h1 => gg (gIs 12 80 h1) <| gc (f_X12_told N 80 h1) fun y h2 => if x = y then f_L_law_1264 N L xs zk 0 0 80 105 (Int32.ofNat i) h2 else some (0, h2)) = zk (0, 0, 80, 105, Int32.ofNat (i + 7), h2) := by
  have is := q.2.1.is
  have e7 : Int32.ofNat i + 7 = Int32.ofNat (i + 7) := n_add i 7
  obtain ⟨h1, h2, t1, t2, t3, t4⟩ := stepI (q.1) (c_told (N := N) hN q.1) (m_told (N := N) hN q.1) q
  refine ⟨_, h2, t4, ?_⟩
  unfold f_L_law_1264
  simp only [gb_s, is, gg_t, t1, gc_s, t2, t3, cmp_self, eq_self, if_true, gl_s, e7]
theorem lw_23 (hN : 2000 ≤ N) (hL : L ≤ 3584) {i : Nat} (hi : i + 7 ≤ L) (q : INV A h) (zk : (Nat × Nat × Nat × Nat × Int32 × PH) → Option (Int32 × PH)) : ∃ A' h2, INV A' h2 ∧ (gg (gIs 11 0 h) <| gc (f_X11_clear N 0 h) fun x h1 => gg (gIs 12 80 h1) <| gc (f_X12_clear N 80 h1) fun y h2 => if x = y then f_L_law_1264 N L xs zk 0 0 80 105 (Int32.ofNat i) h2 else some (0, h2)) = zk (0, 0, 80, 105, Int32.ofNat (i + 7), h2) := by
  have is := q.2.1.is
  have e7 : Int32.ofNat i + 7 = Int32.ofNat (i + 7) := n_add i 7
  obtain ⟨h1, h2, t1, t2, t3, t4⟩ := stepI (clear_ok q.1) (c_clear (N := N)) (m_clear (N := N) q.1) q
  refine ⟨_, h2, t4, ?_⟩
  unfold f_L_law_1264
  simp only [gb_s, is, gg_t, t1, gc_s, t2, t3, cmp_self, eq_self, if_true, gl_s, e7]
theorem lw_24 (hN : 2000 ≤ N) (hL : L ≤ 3584) {i : Nat} (hi : i + 7 ≤ L) (q : INV A h) (zk : (Nat × Nat × Nat × Nat × Int32 × PH) → Option (Int32 × PH)) : ∃ A' h2, INV A' h2 ∧ (gb (scr L xs (Int32.ofNat i + 1)) fun a1 => gg (gIs 11 0 h) <| gc (f_X11_book N 0 a1 h) fun x h1 => gb (scr L xs (Int32.ofNat i + 1)) fun b1 => gg (gIs 12 80 h1) <| gc (f_X12_book N 80 b1 h1) fun y h2 => if x = y then f_L_law_1264 N L xs zk 0 0 80 105 (Int32.ofNat i) h2 else some (0, h2)) = zk (0, 0, 80, 105, Int32.ofNat (i + 7), h2) := by
  have s1 : scr L xs (Int32.ofNat i + 1) = some (xs (i + 1)) := by rw [show Int32.ofNat i + 1 = Int32.ofNat (i + 1) from n_add i 1]; exact scr_n hL (by omega)
  have is := q.2.1.is
  have e7 : Int32.ofNat i + 7 = Int32.ofNat (i + 7) := n_add i 7
  obtain ⟨h1, h2, t1, t2, t3, t4⟩ := stepI (book_ok q.1 (xs (i + 1))) (c_book (N := N) q.1 (xs (i + 1))) (m_book (N := N) hN q.1 (xs (i + 1))) q
  refine ⟨_, h2, t4, ?_⟩
  unfold f_L_law_1264
  simp only [s1, gb_s, is, gg_t, t1, gc_s, t2, t3, cmp_self, eq_self, if_true, gl_s, e7]
theorem lw_25 (hN : 2000 ≤ N) (hL : L ≤ 3584) {i : Nat} (hi : i + 7 ≤ L) (q : INV A h) (zk : (Nat × Nat × Nat × Nat × Int32 × PH) → Option (Int32 × PH)) : ∃ A' h2, INV A' h2 ∧ (gb (scr L xs (Int32.ofNat i + 1)) fun a1 => gb (scr L xs (Int32.ofNat i + 2)) fun a2 => gg (gIs 11 0 h) <| gc (f_X11_order N 0 a1 a2 h) fun x h1 => gb (scr L xs (Int32.ofNat i + 1)) fun b1 => gb (scr L xs (Int32.ofNat i + 2)) fun b2 => gg (gIs 12 80 h1) <| gc (f_X12_order N 80 b1 b2 h1) fun y h2 => if x = y then f_L_law_1264 N L xs zk 0 0 80 105 (Int32.ofNat i) h2 else some (0, h2)) = zk (0, 0, 80, 105, Int32.ofNat (i + 7), h2) := by
  have s1 : scr L xs (Int32.ofNat i + 1) = some (xs (i + 1)) := by rw [show Int32.ofNat i + 1 = Int32.ofNat (i + 1) from n_add i 1]; exact scr_n hL (by omega)
  have s2 : scr L xs (Int32.ofNat i + 2) = some (xs (i + 2)) := by rw [show Int32.ofNat i + 2 = Int32.ofNat (i + 2) from n_add i 2]; exact scr_n hL (by omega)
  have is := q.2.1.is
  have e7 : Int32.ofNat i + 7 = Int32.ofNat (i + 7) := n_add i 7
  obtain ⟨h1, h2, t1, t2, t3, t4⟩ := stepI (q.1) (c_order (N := N) hN q.1 (xs (i + 1)) (xs (i + 2))) (m_order (N := N) hN q.1 (xs (i + 1)) (xs (i + 2))) q
  refine ⟨_, h2, t4, ?_⟩
  unfold f_L_law_1264
  simp only [s1, s2, gb_s, is, gg_t, t1, gc_s, t2, t3, cmp_self, eq_self, if_true, gl_s, e7]
theorem lw_26 (hN : 2000 ≤ N) (hL : L ≤ 3584) {i : Nat} (hi : i + 7 ≤ L) (q : INV A h) (zk : (Nat × Nat × Nat × Nat × Int32 × PH) → Option (Int32 × PH)) : ∃ A' h2, INV A' h2 ∧ (gb (scr L xs (Int32.ofNat i + 1)) fun a1 => gb (scr L xs (Int32.ofNat i + 2)) fun a2 => gg (gIs 11 0 h) <| gc (f_X11_tried N 0 a1 a2 h) fun x h1 => gb (scr L xs (Int32.ofNat i + 1)) fun b1 => gb (scr L xs (Int32.ofNat i + 2)) fun b2 => gg (gIs 12 80 h1) <| gc (f_X12_tried N 80 b1 b2 h1) fun y h2 => if x = y then f_L_law_1264 N L xs zk 0 0 80 105 (Int32.ofNat i) h2 else some (0, h2)) = zk (0, 0, 80, 105, Int32.ofNat (i + 7), h2) := by
  have s1 : scr L xs (Int32.ofNat i + 1) = some (xs (i + 1)) := by rw [show Int32.ofNat i + 1 = Int32.ofNat (i + 1) from n_add i 1]; exact scr_n hL (by omega)
  have s2 : scr L xs (Int32.ofNat i + 2) = some (xs (i + 2)) := by rw [show Int32.ofNat i + 2 = Int32.ofNat (i + 2) from n_add i 2]; exact scr_n hL (by omega)
  have is := q.2.1.is
  have e7 : Int32.ofNat i + 7 = Int32.ofNat (i + 7) := n_add i 7
  obtain ⟨h1, h2, t1, t2, t3, t4⟩ := stepI (q.1) (c_tried (N := N) hN q.1 (xs (i + 1)) (xs (i + 2))) (m_tried (N := N) hN q.1 (xs (i + 1)) (xs (i + 2))) q
  refine ⟨_, h2, t4, ?_⟩
  unfold f_L_law_1264
  simp only [s1, s2, gb_s, is, gg_t, t1, gc_s, t2, t3, cmp_self, eq_self, if_true, gl_s, e7]
theorem lw_27 (hN : 2000 ≤ N) (hL : L ≤ 3584) {i : Nat} (hi : i + 7 ≤ L) (q : INV A h) (zk : (Nat × Nat × Nat × Nat × Int32 × PH) → Option (Int32 × PH)) : ∃ A' h2, INV A' h2 ∧ (gg (gIs 11 0 h) <| gc (f_X11_best N 0 h) fun x h1 => gg (gIs 12 80 h1) <| gc (f_X12_best N 80 h1) fun y h2 => if x = y then f_L_law_1264 N L xs zk 0 0 80 105 (Int32.ofNat i) h2 else some (0, h2)) = zk (0, 0, 80, 105, Int32.ofNat (i + 7), h2) := by
  have is := q.2.1.is
  have e7 : Int32.ofNat i + 7 = Int32.ofNat (i + 7) := n_add i 7
  obtain ⟨h1, h2, t1, t2, t3, t4⟩ := stepI (q.1) (c_best (N := N) hN q.1) (m_best (N := N) hN q.1) q
  refine ⟨_, h2, t4, ?_⟩
  unfold f_L_law_1264
  simp only [gb_s, is, gg_t, t1, gc_s, t2, t3, cmp_self, eq_self, if_true, gl_s, e7]
theorem lw_28 (hN : 2000 ≤ N) (hL : L ≤ 3584) {i : Nat} (hi : i + 7 ≤ L) (q : INV A h) (zk : (Nat × Nat × Nat × Nat × Int32 × PH) → Option (Int32 × PH)) : ∃ A' h2, INV A' h2 ∧ (gb (scr L xs (Int32.ofNat i + 1)) fun a1 => gb (scr L xs (Int32.ofNat i + 2)) fun a2 => if a2 = 0 then f_L_law_1207 N L xs zk 0 0 80 105 (Int32.ofNat i) 0 a1 0 h else f_L_law_1207 N L xs zk 0 0 80 105 (Int32.ofNat i) 1 a1 0 h) = zk (0, 0, 80, 105, Int32.ofNat (i + 7), h2) := by
  have s1 : scr L xs (Int32.ofNat i + 1) = some (xs (i + 1)) := by rw [show Int32.ofNat i + 1 = Int32.ofNat (i + 1) from n_add i 1]; exact scr_n hL (by omega)
  have s2 : scr L xs (Int32.ofNat i + 2) = some (xs (i + 2)) := by rw [show Int32.ofNat i + 2 = Int32.ofNat (i + 2) from n_add i 2]; exact scr_n hL (by omega)
  have is := q.2.1.is
  have e7 : Int32.ofNat i + 7 = Int32.ofNat (i + 7) := n_add i 7
  unfold f_L_law_1207 f_L_law_1231 f_L_law_1264
  by_cases z : xs (i + 2) = 0
  · obtain ⟨h1, h2, t1, t2, t3, t4⟩ := stepI (mark_ok q.1 (xs (i + 1)) false) (c_mark hN q.1 (xs (i + 1)) false) (m_mark hN q.1 (xs (i + 1)) false) q
    have t1 : f_X11_mark N 0 (xs (i + 1)) 0 h = _ := t1
    have t3 : f_X12_mark N 80 (xs (i + 1)) 0 h1 = _ := t3
    refine ⟨_, h2, t4, ?_⟩
    simp only [s1, s2, gb_s, z, is, gg_t, t1, gc_s, t2, t3, eq_self, if_true, gl_s, e7]
  · obtain ⟨h1, h2, t1, t2, t3, t4⟩ := stepI (mark_ok q.1 (xs (i + 1)) true) (c_mark hN q.1 (xs (i + 1)) true) (m_mark hN q.1 (xs (i + 1)) true) q
    have t1 : f_X11_mark N 0 (xs (i + 1)) 1 h = _ := t1
    have t3 : f_X12_mark N 80 (xs (i + 1)) 1 h1 = _ := t3
    refine ⟨_, h2, t4, ?_⟩
    simp only [s1, s2, gb_s, z, is, gg_t, t1, gc_s, t2, t3, eq_self, if_true, if_false, gl_s, e7]
theorem lw_29 (hN : 2000 ≤ N) (hL : L ≤ 3584) {i : Nat} (hi : i + 7 ≤ L) (q : INV A h) (zk : (Nat × Nat × Nat × Nat × Int32 × PH) → Option (Int32 × PH)) : ∃ A' h2, INV A' h2 ∧ (gb (scr L xs (Int32.ofNat i + 1)) fun a1 => gg (gIs 11 0 h) <| gc (f_X11_count N 0 a1 h) fun x h1 => gb (scr L xs (Int32.ofNat i + 1)) fun b1 => gg (gIs 12 80 h1) <| gc (f_X12_count N 80 b1 h1) fun y h2 => if x = y then f_L_law_1264 N L xs zk 0 0 80 105 (Int32.ofNat i) h2 else some (0, h2)) = zk (0, 0, 80, 105, Int32.ofNat (i + 7), h2) := by
  have s1 : scr L xs (Int32.ofNat i + 1) = some (xs (i + 1)) := by rw [show Int32.ofNat i + 1 = Int32.ofNat (i + 1) from n_add i 1]; exact scr_n hL (by omega)
  have is := q.2.1.is
  have e7 : Int32.ofNat i + 7 = Int32.ofNat (i + 7) := n_add i 7
  obtain ⟨h1, h2, t1, t2, t3, t4⟩ := stepI (q.1) (c_count (N := N) hN q.1 (xs (i + 1))) (m_count (N := N) hN q.1 (xs (i + 1))) q
  refine ⟨_, h2, t4, ?_⟩
  unfold f_L_law_1264
  simp only [s1, gb_s, is, gg_t, t1, gc_s, t2, t3, cmp_self, eq_self, if_true, gl_s, e7]
theorem law_step (hN : 2000 ≤ N) (hL : L ≤ 3584) {i : Nat} (hi : i + 7 ≤ L) (q : INV A h) (zk : (Nat × Nat × Nat × Nat × Int32 × PH) → Option (Int32 × PH)) : ∃ A' h2, INV A' h2 ∧ f_L_law_23 N L xs zk 0 0 80 105 (Int32.ofNat i) h = zk (0, 0, 80, 105, Int32.ofNat (i + 7), h2) := by
  have s0 := scr_n (xs := xs) hL (show i < L by omega)
  have e7 : Int32.ofNat i + 7 = Int32.ofNat (i + 7) := n_add i 7
  unfold f_L_law_23
  rw [if_neg (by rw [lw_end hL (by omega)]; omega), s0, gb_s]
  by_cases c0 : (xs i &&& 31) = 0
  · rw [if_pos c0]
    exact lw_0 hN hL hi q zk
  rw [if_neg c0]
  by_cases c1 : (xs i &&& 31) = 1
  · rw [if_pos c1]
    exact lw_1 hN hL hi q zk
  rw [if_neg c1]
  by_cases c2 : (xs i &&& 31) = 2
  · rw [if_pos c2]
    exact lw_2 hN hL hi q zk
  rw [if_neg c2]
  by_cases c3 : (xs i &&& 31) = 3
  · rw [if_pos c3]
    exact lw_3 hN hL hi q zk
  rw [if_neg c3]
  by_cases c4 : (xs i &&& 31) = 4
  · rw [if_pos c4]
    exact lw_4 hN hL hi q zk
  rw [if_neg c4]
  by_cases c5 : (xs i &&& 31) = 5
  · rw [if_pos c5]
    exact lw_5 hN hL hi q zk
  rw [if_neg c5]
  by_cases c6 : (xs i &&& 31) = 6
  · rw [if_pos c6]
    exact lw_6 hN hL hi q zk
  rw [if_neg c6]
  by_cases c7 : (xs i &&& 31) = 7
  · rw [if_pos c7]
    exact lw_7 hN hL hi q zk
  rw [if_neg c7]
  by_cases c8 : (xs i &&& 31) = 8
  · rw [if_pos c8]
    exact lw_8 hN hL hi q zk
  rw [if_neg c8]
  by_cases c9 : (xs i &&& 31) = 9
  · rw [if_pos c9]
    exact lw_9 hN hL hi q zk
  rw [if_neg c9]
  by_cases c10 : (xs i &&& 31) = 10
  · rw [if_pos c10]
    exact lw_10 hN hL hi q zk
  rw [if_neg c10]
  by_cases c11 : (xs i &&& 31) = 11
  · rw [if_pos c11]
    exact lw_11 hN hL hi q zk
  rw [if_neg c11]
  by_cases c12 : (xs i &&& 31) = 12
  · rw [if_pos c12]
    exact lw_12 hN hL hi q zk
  rw [if_neg c12]
  by_cases c13 : (xs i &&& 31) = 13
  · rw [if_pos c13]
    exact lw_13 hN hL hi q zk
  rw [if_neg c13]
  by_cases c14 : (xs i &&& 31) = 14
  · rw [if_pos c14]
    exact lw_14 hN hL hi q zk
  rw [if_neg c14]
  by_cases c15 : (xs i &&& 31) = 15
  · rw [if_pos c15]
    exact lw_15 hN hL hi q zk
  rw [if_neg c15]
  by_cases c16 : (xs i &&& 31) = 16
  · rw [if_pos c16]
    exact lw_16 hN hL hi q zk
  rw [if_neg c16]
  by_cases c17 : (xs i &&& 31) = 17
  · rw [if_pos c17]
    exact lw_17 hN hL hi q zk
  rw [if_neg c17]
  by_cases c18 : (xs i &&& 31) = 18
  · rw [if_pos c18]
    exact lw_18 hN hL hi q zk
  rw [if_neg c18]
  by_cases c19 : (xs i &&& 31) = 19
  · rw [if_pos c19]
    exact lw_19 hN hL hi q zk
  rw [if_neg c19]
  by_cases c20 : (xs i &&& 31) = 20
  · rw [if_pos c20]
    exact lw_20 hN hL hi q zk
  rw [if_neg c20]
  by_cases c21 : (xs i &&& 31) = 21
  · rw [if_pos c21]
    exact lw_21 hN hL hi q zk
  rw [if_neg c21]
  by_cases c22 : (xs i &&& 31) = 22
  · rw [if_pos c22]
    exact lw_22 hN hL hi q zk
  rw [if_neg c22]
  by_cases c23 : (xs i &&& 31) = 23
  · rw [if_pos c23]
    exact lw_23 hN hL hi q zk
  rw [if_neg c23]
  by_cases c24 : (xs i &&& 31) = 24
  · rw [if_pos c24]
    exact lw_24 hN hL hi q zk
  rw [if_neg c24]
  by_cases c25 : (xs i &&& 31) = 25
  · rw [if_pos c25]
    exact lw_25 hN hL hi q zk
  rw [if_neg c25]
  by_cases c26 : (xs i &&& 31) = 26
  · rw [if_pos c26]
    exact lw_26 hN hL hi q zk
  rw [if_neg c26]
  by_cases c27 : (xs i &&& 31) = 27
  · rw [if_pos c27]
    exact lw_27 hN hL hi q zk
  rw [if_neg c27]
  by_cases c28 : (xs i &&& 31) = 28
  · rw [if_pos c28]
    exact lw_28 hN hL hi q zk
  rw [if_neg c28]
  by_cases c29 : (xs i &&& 31) = 29
  · rw [if_pos c29]
    exact lw_29 hN hL hi q zk
  rw [if_neg c29]
  refine ⟨A, h, q, ?_⟩
  unfold f_L_law_1264
  rw [gl_s, e7]
theorem law_loop (hN : 2000 ≤ N) (hL : L ≤ 3584) : ∀ d i mm A h, i ≤ L → L < i + 7 * (d + 1) → d < mm → INV A h → ∃ h9, gi (fun zk zs => f_L_law_23 N L xs zk zs.1 zs.2.1 zs.2.2.1 zs.2.2.2.1 zs.2.2.2.2.1 zs.2.2.2.2.2) mm (0, 0, 80, 105, Int32.ofNat i, h) = some (1, h9) := by
  have ends : ∀ i mm (h : PH), i ≤ L → L < i + 7 → 0 < mm → ∃ h9, gi (fun zk zs => f_L_law_23 N L xs zk zs.1 zs.2.1 zs.2.2.1 zs.2.2.2.1 zs.2.2.2.2.1 zs.2.2.2.2.2) mm (0, 0, 80, 105, Int32.ofNat i, h) = some (1, h9) := by
    intro i mm h h1 h2 h3
    obtain ⟨mm, rfl⟩ : ∃ j, mm = j + 1 := ⟨mm - 1, by omega⟩
    refine ⟨h, ?_⟩
    rw [gi_1]
    generalize hz : gi _ mm = zk
    dsimp only
    unfold f_L_law_23
    rw [if_pos (by rw [lw_end hL (by omega)]; exact h2)]
  intro d
  induction d with
  | zero =>
    intro i mm A h h0 h1 h2 q
    exact ends i mm h h0 (by omega) (by omega)
  | succ d ih =>
    intro i mm A h h0 h1 h2 q
    by_cases z : i + 7 ≤ L
    · obtain ⟨mm, rfl⟩ : ∃ j, mm = j + 1 := ⟨mm - 1, by omega⟩
      rw [gi_1]
      generalize hz : gi (fun zk zs => f_L_law_23 N L xs zk zs.1 zs.2.1 zs.2.2.1 zs.2.2.2.1 zs.2.2.2.2.1 zs.2.2.2.2.2) mm = zk
      dsimp only
      obtain ⟨A', h2', q2, e⟩ := law_step (xs := xs) hN hL z q zk
      obtain ⟨h9, g⟩ := ih (i + 7) mm A' h2' z (by omega) (by omega) q2
      rw [hz] at g
      exact ⟨h9, e.trans g⟩
    · exact ends i mm h h0 (by omega) (by omega)
theorem plain_all (hL : L ≤ 3584) : ∃ h9, f_L_law 2000 L xs [] = some (1, h9) := by
  obtain ⟨h', a1, a2, a3⟩ := c_init11 (N := 2000) (Nat.le_refl _)
  obtain ⟨M, b1, b2⟩ := m_init12 (N := 2000) (h := h')
  rw [a2] at b1
  have bl := blk_len sX12 80 M
  simp only [z12] at bl
  have ln : (h' ++ blk sX12 80 M).length = 105 := by rw [List.length_append, a2, bl]
  have at12 : At sX12 80 M (h' ++ blk sX12 80 M ++ [.inl (1, 1, .inr (.inl (fun _ => 0)))]) := by
    have := At_blk (S := sX12) (D := M) (h := h') (l := [.inl (1, 1, .inr (.inl (fun _ => 0)))])
    rw [a2] at this
    rw [List.append_assoc]
    exact this
  have q : INV A0A (h' ++ blk sX12 80 M ++ [.inl (1, 1, .inr (.inl (fun _ => 0)))]) := by
    refine ⟨A0_ok, a3 _ (by rw [List.length_append, ln]; exact Nat.le_refl _) ?_, ⟨M, at12, b2⟩, fun _ => 0, ?_⟩
    · intro x hx
      have hx : ¬ 80 ≤ x := hx
      rw [List.append_assoc, List.getElem?_append_left (by omega)]
    · rw [List.getElem?_append_right (by omega), ln]
      rfl
  obtain ⟨h9, g⟩ := law_loop (N := 2000) (xs := xs) (Nat.le_refl _) hL 512 0 513 A0A _ (by omega) (by omega) (by omega) q
  refine ⟨h9, ?_⟩
  unfold f_L_law nwO nwA
  rw [gc_s, List.nil_append]
  show gb (f_X11_init 2000 0 [.inr (11, n0X11)]) _ = _
  rw [a1, gb_s, gc_s, a2, b1, gb_s, gc_s, ln]
  exact g
end LawStep

