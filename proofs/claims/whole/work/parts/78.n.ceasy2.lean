/-! The component: page, book, count -/
section CEasy2
variable {N : Nat} {A : AA}
theorem c_page (hN : 2000 ≤ N) (hA' : AOk A) (g s : Int32) : CAns A (pageS A g s) (f_X11_page N 0 g s) (ansPage A g s) := by
  intro h q
  obtain ⟨b, mk, q⟩ := q
  obtain ⟨D, d1, d2⟩ := q.regi
  obtain ⟨E, e1, e2⟩ := q.innR
  have b1 := hA'.1.1
  have b2 := hA'.1.2.1
  have p2 : 2 ^ iR (aI A) ≤ 2 ^ 10 := Nat.pow_le_pow_right (by omega) b1
  have p3 : (2 : Nat) ^ 10 = 1024 := rfl
  have bad : pageOk A g s = false → ∃ h', (some (-1, h) : Option (Int32 × PH)) = some (ansPage A g s, h') ∧ RepC (pageS A g s) h' ∧ Fr (fun x => ¬ Md x) h h' := by
    intro z
    unfold ansPage pageS
    rw [z]
    exact ⟨h, rfl, ⟨b, mk, q⟩, Fr.rf⟩
  unfold f_X11_page f_X11_page_25
  rw [q.is11, gg_t, c_isGuest hA' q, gc_s]
  cases z1 : isN g (iG (aI A)) with
  | false => rw [if_pos (eBf _ rfl)]; exact bad (by unfold pageOk; rw [z1]; rfl)
  | true =>
    rw [if_neg (eBt _ rfl), q.cur, gb_s, e1.gI (k := 0) rfl rfl, gb_s, e2.2.1, shl1 _ (by omega)]
    cases z2 : isN s (2 ^ iR (aI A)) with
    | false =>
      have ok : pageOk A g s = false := by unfold pageOk; rw [z2, Bool.and_false]
      rcases isN_f z2 with w | w
      · rw [if_pos w]; exact bad ok
      · by_cases w2 : s < 0
        · rw [if_pos w2]; exact bad ok
        · rw [if_neg w2, if_neg (by rw [i_le] at w; rw [i_lt]; omega)]
          exact bad ok
    | true =>
      have ok : pageOk A g s = true := by unfold pageOk; rw [z1, z2]; rfl
      obtain ⟨x, hx, rfl⟩ := isN_t (by omega) z1
      obtain ⟨y, hy, rfl⟩ := isN_t (by omega) z2
      have hF : 22 + 3 ≤ h.length := d1.1
      unfold ansPage
      rw [if_pos ok]
      have eA : pageS A (Int32.ofNat x) (Int32.ofNat y) = setS A (sR (aS A), sE (aS A), sS (aS A), fu (sP (aS A)) x y, sJ (aS A), sB (aS A)) := by
        unfold pageS
        rw [if_pos ok, i_okc (by omega), i_okc (by omega)]
      have d3 : At sX6 22 (sa D 0 (upd (oa D 0) x (Int32.ofNat y))) (pt sX6 22 (sa D 0 (upd (oa D 0) x (Int32.ofNat y))) h) := d1.p2
      have d4 : ∀ g, g < 10 → oa (sa D 0 (upd (oa D 0) x (Int32.ofNat y))) 0 g = Int32.ofNat (fu (sP (aS A)) x y g) := by
        intro g hg
        rw [oa_sa, if_pos rfl, upd_at, fu_at]
        by_cases w : g = x
        · rw [if_pos w, if_pos w]
        · rw [if_neg w, if_neg w]
          exact d2 g hg
      have p1 := q.2.2.2.2.2.2.1.p6 (P := fu (sP (aS A)) x y) (D := sa D 0 (upd (oa D 0) x (Int32.ofNat y))) ⟨_, d3, d4⟩
      have p1 : RSt (aI A) (sR (aS A), sE (aS A), sS (aS A), fu (sP (aS A)) x y, sJ (aS A), sB (aS A)) 7 (pt sX6 22 (sa D 0 (upd (oa D 0) x (Int32.ofNat y))) h) ∧ Fr (fun x => 22 ≤ x ∧ x < 25) h (pt sX6 22 (sa D 0 (upd (oa D 0) x (Int32.ofNat y))) h) := p1
      have q2 := q.st7 (p1.2.up (fun x hx => by omega)) p1.1
      have pl := fun g => pg_lt hA'.1 hA'.2.1 g
      have pg := c_pages (N := N) hN d3 d4 (fun g => by rw [fu_at]; split; omega; have := pl g; omega)
      rw [eA]
      refine ⟨_, ?_, ⟨b, mk, q2⟩, p1.2.nmd (fun x hx => by omega)⟩
      have c1 : ¬ Int32.ofNat y < 0 := by rw [n_lt0 (by omega)]; exact id
      have c2 : Int32.ofNat y < Int32.ofNat (2 ^ iR (aI A)) := of_eq_true (nltT hy (by omega) (by omega))
      rw [if_neg c1, if_pos c2, q.stt, gb_s, q.e9.2.2.2.2.2.2.1, gb_s, d1.gR (k := 0) rfl rfl, gb_s, d1.eI (j := 0) w6 rfl (ixn (by omega) (by omega)), gb_s, i_okc (by omega), gnar_0, q2.stt, gb_s, q2.e9.2.2.2.2.2.2.1, gb_s, d3.is rfl, gg_t, pg, gc_s]
      congr 3
      show cntP (fu (sP (aS A)) x y) 10 = cntP (fu (sP (aS A)) x y) (iG (aI A))
      exact cntP_z b2 (fun g hg => by rw [fu_ne (by omega)]; exact (hA'.2.1.2.2.2.2.2.1 g).2 hg)
theorem bk_len (hA' : AOk A) : cntB (fun g => (sB (aS A)).contains g) 10 = (sB (aS A)).length := cntB_l _ hA'.2.1.2.2.2.2.2.2.2.2.2.1 (fun x hx => by have := (hA'.2.1.2.2.2.2.2.2.2.2.2.2 x hx).1; have := hA'.1.2.1; omega)
theorem c_book (hA' : AOk A) (g : Int32) : CAns A (bookS A g) (f_X11_book N 0 g) (ansBook A g) := by
  intro h q
  obtain ⟨b, mk, q⟩ := q
  have ql := q.2.2.2.2.2.2.2.2.2.2.2.2
  obtain ⟨D, d1, d2⟩ := q.hous
  have b2 := hA'.1.2.1
  have fit := hA_fit hA'
  have bl := bk_len hA'
  have b7 := hA'.2.1.2.2.2.2.2.2.2.2.1
  -- the set of those booked is laid down
  have put : ∀ l : List Nat, ∃ h', pfV 9 7 7 (.int (Int32.ofNat (msk (fun g => l.contains g) 10))) h = some h' ∧ RC (setS A (sR (aS A), sE (aS A), sS (aS A), sP (aS A), sJ (aS A), l)) b mk h' ∧ Fr (fun x => ¬ Md x) h h' := by
    intro l
    obtain ⟨D9, a, c, c7, c8, c9, c10⟩ := q.2.2.2.2.2.2.1.1
    have f : Fr (fun y => y = 7) h (pt sX9 7 (si D9 7 (Int32.ofNat (msk (fun g => l.contains g) 10))) h) := Fr.of (fun y h1 h2 => by simp only [z9] at h2; omega)
    refine ⟨_, a.sI (k := 7) rfl rfl, q.st7 (f.up (fun y hy => by omega)) (q.2.2.2.2.2.2.1.s9 (by omega) ⟨_, a.p2, c, by rw [oi_si, if_pos rfl]; rfl, c8, c9, c10⟩ rfl rfl rfl rfl), f.nmd (fun y hy => by omega)⟩
  unfold f_X11_book f_X11_book_51
  by_cases z0 : g < 0
  · have n0 : ¬ 0 ≤ g := by rw [i_lt] at z0; rw [i_le]; omega
    obtain ⟨h', a1, a2, a3⟩ := put []
    have e0 : Int32.ofNat (msk (fun g => ([] : List Nat).contains g) 10) = 0 := by decide
    rw [e0] at a1
    unfold bookS ansBook
    rw [if_neg n0, if_pos z0, if_pos z0, q.stt, gb_s, a1, gb_s]
    exact ⟨h', rfl, ⟨b, mk, a2⟩, a3⟩
  · have n0 : 0 ≤ g := by rw [i_lt] at z0; rw [i_le]; omega
    have bad : bookOk A g = false → ∃ h', (some (-1, h) : Option (Int32 × PH)) = some (ansBook A g, h') ∧ RepC (bookS A g) h' ∧ Fr (fun x => ¬ Md x) h h' := by
      intro z
      unfold ansBook bookS
      rw [if_neg z0, if_neg z0, z]
      exact ⟨h, rfl, ⟨b, mk, q⟩, Fr.rf⟩
    rw [if_pos n0, q.is11, gg_t, c_isGuest hA' q, gc_s]
    cases z1 : isN g (iG (aI A)) with
    | false => rw [if_pos (eBf _ rfl)]; exact bad (by unfold bookOk; rw [z1]; rfl)
    | true =>
      obtain ⟨x, hx, rfl⟩ := isN_t (by omega) z1
      rw [if_neg (eBt _ rfl), q.stt, gb_s, q.e9.2.2.1, gb_s, d1.is rfl, gg_t, c_isIn d1 d2 hA'.1 (by omega), gc_s, rep_some fit]
      cases z2 : insS (sE (aS A)) x with
      | true =>
        rw [if_neg (eBt _ rfl)]
        exact bad (by unfold bookOk; rw [i_okc (by omega), z2, Bool.not_true, Bool.and_false]; rfl)
      | false =>
        rw [if_pos (eBf _ rfl), q.stt, gb_s, q.e9.2.2.2.2.2.2.2.2.1, gb_s, c_bit (by omega), gc_s, decide_eq_true (show x < 10 by omega), Bool.true_and]
        cases z3 : (sB (aS A)).contains x with
        | true =>
          have t1 : eB true = 1 := rfl
          rw [if_pos t1]
          exact bad (by unfold bookOk; rw [i_okc (by omega), z3, Bool.not_true, Bool.and_false]; rfl)
        | false =>
          have f0 : ¬ eB false = 1 := by decide
          rw [if_neg f0, q.stt, gb_s, q.e9.2.2.2.2.2.2.2.2.1, gb_s, c_bitCountM, gc_s, bl]
          by_cases z4 : (sB (aS A)).length < 7
          · have ok : bookOk A (Int32.ofNat x) = true := by
              unfold bookOk
              rw [i_okc (by omega), z1, z2, z3, decide_eq_true z4]
              rfl
            have l4 : Int32.ofNat (sB (aS A)).length < 7 := of_eq_true (nltT (b := 7) z4 (by omega) (by omega))
            obtain ⟨h', a1, a2, a3⟩ := put (sB (aS A) ++ [x])
            have em : Int32.ofNat (msk (fun g => (sB (aS A)).contains g) 10) ||| (1 : Int32) <<< (Int32.ofNat x &&& 31) = Int32.ofNat (msk (fun g => (sB (aS A) ++ [x]).contains g) 10) := by
              rw [shl1 x (by omega), msk_or _ (by omega) (by omega)]
              congr 1
              refine msk_ext (fun k _ => ?_)
              rw [fu_at, Bool.eq_iff_iff]
              by_cases w : k = x
              · rw [if_pos w]; simp [w]
              · rw [if_neg w]; simp [w]
            have eA : bookS A (Int32.ofNat x) = setS A (sR (aS A), sE (aS A), sS (aS A), sP (aS A), sJ (aS A), sB (aS A) ++ [x]) := by
              unfold bookS
              rw [if_neg z0, if_pos ok, i_okc (by omega)]
            have ea : ansBook A (Int32.ofNat x) = Int32.ofNat ((sB (aS A)).length + 1) := by
              unfold ansBook
              rw [if_neg z0, if_pos ok]
            have l2 : cntB (fun g => (sB (aS A) ++ [x]).contains g) 10 = (sB (aS A)).length + 1 := by
              rw [cntB_l]
              · rw [List.length_append]; rfl
              · rw [List.nodup_append]
                refine ⟨hA'.2.1.2.2.2.2.2.2.2.2.2.1, by simp, ?_⟩
                intro a ha c hc
                rw [List.mem_singleton.mp hc]
                intro e
                rw [e] at ha
                have : (sB (aS A)).contains x = true := by simp [ha]
                rw [z3] at this
                cases this
              · intro y hy
                rcases List.mem_append.mp hy with w | w
                · have := (hA'.2.1.2.2.2.2.2.2.2.2.2.2 y w).1
                  omega
                · rw [List.mem_singleton.mp w]; omega
            rw [eA, ea]
            refine ⟨h', ?_, ⟨b, mk, a2⟩, a3⟩
            have e7 : gfI 9 7 7 h' = some (Int32.ofNat (msk (fun g => (sB (aS A) ++ [x]).contains g) 10)) := a2.e9.2.2.2.2.2.2.2.2.1
            rw [if_pos l4, q.stt, gb_s, q.e9.2.2.2.2.2.2.2.2.1, gb_s, em, a1, gb_s, a2.stt, gb_s, e7, gb_s, c_bitCountM, gc_s, l2]
          · have ok : bookOk A (Int32.ofNat x) = false := by
              unfold bookOk
              rw [decide_eq_false z4, Bool.and_false]
            have l4 : ¬ Int32.ofNat (sB (aS A)).length < 7 := of_eq_false (nltF (b := 7) z4 (by omega) (by omega))
            rw [if_neg l4]
            exact bad ok
theorem c_count (hN : 2000 ≤ N) (hA' : AOk A) (w : Int32) : CAns A A (f_X11_count N 0 w) (ansCount A w) := by
  refine CAns.ro (fun h q => ?_)
  obtain ⟨b, mk, q⟩ := q
  obtain ⟨E, e1, e2⟩ := q.innR
  obtain ⟨D, d1, d2⟩ := q.hous
  obtain ⟨D8, s1, s2, _⟩ := q.sigh
  obtain ⟨D6, g1, g2⟩ := q.regi
  obtain ⟨D4, j1, j2, _⟩ := q.jobs
  obtain ⟨D10, t1, t2, _⟩ := q.2.1
  have fit := hA_fit hA'
  have bl := bk_len hA'
  have pg := c_pages (N := N) hN g1 g2 (fun g => by have := pg_lt hA'.1 hA'.2.1 g; omega)
  have pz : cntP (sP (aS A)) 10 = pagesS A := cntP_z hA'.1.2.1 (fun g hg => (hA'.2.1.2.2.2.2.2.1 g).2 hg)
  unfold f_X11_count ansCount f_X1_guestsIn f_X10_length
  by_cases c0 : w = 0
  · rw [if_pos c0, if_pos c0, q.cur, gb_s, e1.gI (k := 0) rfl rfl, gb_s, e2.2.1]
  rw [if_neg c0, if_neg c0]
  by_cases c1 : w = 1
  · rw [if_pos c1, if_pos c1, q.cur, gb_s, e1.gI (k := 1) rfl rfl, gb_s, e2.2.2.1]
  rw [if_neg c1, if_neg c1]
  by_cases c2 : w = 2
  · rw [if_pos c2, if_pos c2, q.cur, gb_s, e1.gI (k := 2) rfl rfl, gb_s, e2.2.2.2.1]
  rw [if_neg c2, if_neg c2]
  by_cases c3 : w = 3
  · rw [if_pos c3, if_pos c3, q.stt, gb_s, q.e9.2.2.1, gb_s, d1.is rfl, gg_t, d1.gI (k := 8) rfl rfl, gb_s, gc_s, d2.2.1, fit.2.2]
  rw [if_neg c3, if_neg c3]
  by_cases c4 : w = 4
  · rw [if_pos c4, if_pos c4, q.stt, gb_s, q.e9.2.2.2.2.2.2.2.2.2.1, gb_s]
  rw [if_neg c4, if_neg c4]
  by_cases c5 : w = 5
  · rw [if_pos c5, if_pos c5, q.stt, gb_s, q.e9.2.2.2.2.2.1, gb_s, s1.gI (k := 5) rfl rfl, gb_s, s2]
  rw [if_neg c5, if_neg c5]
  by_cases c6 : w = 6
  · rw [if_pos c6, if_pos c6, q.stt, gb_s, q.e9.2.2.2.2.2.2.1, gb_s, g1.is rfl, gg_t, pg, gc_s, pz]
  rw [if_neg c6, if_neg c6]
  by_cases c7 : w = 7
  · rw [if_pos c7, if_pos c7, q.stt, gb_s, q.e9.2.2.2.2.2.2.2.1, gb_s, j1.gI (k := 3) rfl rfl, gb_s, j2]
  rw [if_neg c7, if_neg c7]
  by_cases c8 : w = 8
  · rw [if_pos c8, if_pos c8, q.stt, gb_s, q.e9.2.2.2.2.2.2.2.2.1, gb_s, c_bitCountM, gc_s, bl]
  rw [if_neg c8, if_neg c8]
  by_cases c9 : w = 9
  · rw [if_pos c9, if_pos c9, q.stt, gb_s, q.e9.2.2.2.2.2.2.2.2.2.2.2, gb_s]
  rw [if_neg c9, if_neg c9]
  by_cases c10 : w = 10
  · rw [if_pos c10, if_pos c10, q.e11.2.1, gb_s, t1.is rfl, gg_t, t1.gI (k := 1) rfl rfl, gb_s, gc_s, t2]
  rw [if_neg c10, if_neg c10]
end CEasy2

