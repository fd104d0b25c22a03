/-! The component: job, told, clear, page, book, count -/
section Puts
variable {I : IA} {S : SA} {q : Nat} {h : PH}
theorem RSt.p8 (r : RSt I S q h) {l : List Tri} {D : OD} (g : r8 l (q + 9) (pt sX8 (q + 9) D h)) : RSt I (sR S, sE S, l, sP S, sJ S, sB S) q (pt sX8 (q + 9) D h) ∧ Fr (fun x => q + 9 ≤ x ∧ x < q + 15) h (pt sX8 (q + 9) D h) := by
  have f : Fr (fun x => q + 9 ≤ x ∧ x < q + 15) h (pt sX8 (q + 9) D h) := Fr.of (fun x h1 h2 => by simp only [z8] at h2; omega)
  obtain ⟨a1, a2, a3, a4, a5, a6, a7, a8⟩ := r
  exact ⟨⟨a1.fr f (by omega), a2.fr f (fun x _ _ => by omega), a3.fr f (by omega), a4.fr f (fun x _ _ => by omega), g, a6.fr f (fun x _ _ => by omega), a7.fr f (fun x _ _ => by omega), a8.fr f (fun x _ _ => by omega)⟩, f⟩
theorem RSt.p6 (r : RSt I S q h) {P : Nat → Nat} {D : OD} (g : r6 P (q + 15) (pt sX6 (q + 15) D h)) : RSt I (sR S, sE S, sS S, P, sJ S, sB S) q (pt sX6 (q + 15) D h) ∧ Fr (fun x => q + 15 ≤ x ∧ x < q + 18) h (pt sX6 (q + 15) D h) := by
  have f : Fr (fun x => q + 15 ≤ x ∧ x < q + 18) h (pt sX6 (q + 15) D h) := Fr.of (fun x h1 h2 => by simp only [z6] at h2; omega)
  obtain ⟨a1, a2, a3, a4, a5, a6, a7, a8⟩ := r
  exact ⟨⟨a1.fr f (by omega), a2.fr f (fun x _ _ => by omega), a3.fr f (by omega), a4.fr f (fun x _ _ => by omega), a5.fr f (fun x _ _ => by omega), g, a7.fr f (fun x _ _ => by omega), a8.fr f (fun x _ _ => by omega)⟩, f⟩
theorem RSt.p4 (r : RSt I S q h) {J : List Tri} {D : OD} (g : r4 J (q + 18) (pt sX4 (q + 18) D h)) : RSt I (sR S, sE S, sS S, sP S, J, sB S) q (pt sX4 (q + 18) D h) ∧ Fr (fun x => q + 18 ≤ x ∧ x < q + 22) h (pt sX4 (q + 18) D h) := by
  have f : Fr (fun x => q + 18 ≤ x ∧ x < q + 22) h (pt sX4 (q + 18) D h) := Fr.of (fun x h1 h2 => by simp only [z4] at h2; omega)
  obtain ⟨a1, a2, a3, a4, a5, a6, a7, a8⟩ := r
  exact ⟨⟨a1.fr f (by omega), a2.fr f (fun x _ _ => by omega), a3.fr f (by omega), a4.fr f (fun x _ _ => by omega), a5.fr f (fun x _ _ => by omega), a6.fr f (fun x _ _ => by omega), g, a8.fr f (fun x _ _ => by omega)⟩, f⟩
theorem RepTri.push {l : List Tri} {D D' : OD} {x : Tri} (r : RepTri l D) (h0 : oa D' 0 = upd (oa D 0) l.length (Int32.ofNat x.1)) (h1 : oa D' 1 = upd (oa D 1) l.length (Int32.ofNat x.2.1)) (h2 : oa D' 2 = upd (oa D 2) l.length (Int32.ofNat x.2.2)) : RepTri (l ++ [x]) D' := by
  intro k y hy
  rw [h0, h1, h2]
  rcases Nat.lt_or_ge k l.length with z | z
  · rw [List.getElem?_append_left z] at hy
    rw [upd_ne (by omega), upd_ne (by omega), upd_ne (by omega)]
    exact r k y hy
  · have := ln_of hy
    rw [List.length_append] at this
    have this : k < l.length + 1 := this
    have hk : k = l.length := by omega
    subst hk
    rw [List.getElem?_append_right (Nat.le_refl _), Nat.sub_self] at hy
    cases hy
    rw [upd_eq rfl, upd_eq rfl, upd_eq rfl]
    exact ⟨rfl, rfl, rfl⟩
end Puts
section CEasy
variable {N : Nat} {A : AA}
theorem c_isJob {v : Int32} {h : PH} : f_X11_isJobPart N v h = some (eB (isN v 100), h) := by
  refine c_lim (n := 99) (by omega) ?_
  unfold f_X11_isJobPart f_X11_isJobPart_14 f_X11_isJobPart_15
  rw [gzb0, gzb1, gg_t, gg_t]
  rfl
theorem RC.jobs {b : Bool} {mk : Nat → Option Nat} {h : PH} (r : RC A b mk h) : ∃ D, At sX4 25 D h ∧ oi D 3 = Int32.ofNat (sJ (aS A)).length ∧ RepTri (sJ (aS A)) D := r.2.2.2.2.2.2.1.2.2.2.2.2.2.1
theorem RC.regi {b : Bool} {mk : Nat → Option Nat} {h : PH} (r : RC A b mk h) : ∃ D, At sX6 22 D h ∧ ∀ g, g < 10 → oa D 0 g = Int32.ofNat (sP (aS A) g) := r.2.2.2.2.2.2.1.2.2.2.2.2.1
theorem RC.sigh {b : Bool} {mk : Nat → Option Nat} {h : PH} (r : RC A b mk h) : ∃ D, At sX8 16 D h ∧ oi D 5 = Int32.ofNat (sS (aS A)).length ∧ RepTri (srtT (sS (aS A))) D := r.2.2.2.2.2.2.1.2.2.2.2.1
theorem c_job (hA' : AOk A) (a s bh : Int32) : CAns A (jobS A a s bh) (f_X11_job N 0 a s bh) (ansJob A a s bh) := by
  intro h q
  obtain ⟨b, mk, q⟩ := q
  obtain ⟨D, d1, d2, d3⟩ := q.jobs
  have jl := hA'.2.1.2.2.2.2.2.2.1
  have bad : jobOk A a s bh = false → ∃ h', (some (-1, h) : Option (Int32 × PH)) = some (ansJob A a s bh, h') ∧ RepC (jobS A a s bh) h' ∧ Fr (fun x => ¬ Md x) h h' := by
    intro z
    unfold ansJob jobS
    rw [z]
    exact ⟨h, rfl, ⟨b, mk, q⟩, Fr.rf⟩
  unfold f_X11_job f_X11_job_25 f_X11_job_57
  rw [c_isJob, gc_s]
  cases z1 : isN a 100 with
  | false => rw [if_pos (eBf _ rfl)]; exact bad (by unfold jobOk; rw [z1]; rfl)
  | true =>
    rw [if_neg (eBt _ rfl), c_isJob, gc_s]
    cases z2 : isN s 100 with
    | false => rw [if_pos (eBf _ rfl)]; exact bad (by unfold jobOk; rw [z1, z2]; rfl)
    | true =>
      rw [if_neg (eBt _ rfl)]
      by_cases z3 : s = 0
      · rw [if_pos z3]
        exact bad (by unfold jobOk; rw [decide_eq_false (not_not_intro z3), Bool.and_false, Bool.and_false]; rfl)
      · rw [if_neg z3, c_isJob, gc_s]
        cases z4 : isN bh 100 with
        | false => rw [if_pos (eBf _ rfl)]; exact bad (by unfold jobOk; rw [z4, Bool.and_false]; rfl)
        | true =>
          obtain ⟨x, hx, rfl⟩ := isN_t (by omega) z1
          obtain ⟨y, hy, rfl⟩ := isN_t (by omega) z2
          obtain ⟨z, hz, rfl⟩ := isN_t (by omega) z4
          rw [if_neg (eBt _ rfl), q.stt, gb_s, q.e9.2.2.2.2.2.2.2.1, gb_s, d1.is rfl, gg_t]
          unfold f_X4_add
          rw [d1.gI (k := 3) rfl rfl, gb_s, d2]
          by_cases z5 : (sJ (aS A)).length < 7
          · have ok : jobOk A (Int32.ofNat x) (Int32.ofNat y) (Int32.ofNat z) = true := by
              unfold jobOk
              rw [z1, z2, z4, decide_eq_true z3, decide_eq_true z5]
              rfl
            have l5 : Int32.ofNat (sJ (aS A)).length < 7 := of_eq_true (nltT (b := 7) z5 (by omega) (by omega))
            have hF : 25 + 4 ≤ h.length := d1.1
            unfold ansJob jobS
            rw [if_pos l5, if_pos ok, if_pos ok, i_okc (by omega), i_okc (by omega), i_okc (by omega)]
            have put := q.2.2.2.2.2.2.1.p4 (J := sJ (aS A) ++ [(x, y, z)]) (D := si (sa (sa (sa D 0 (upd (oa D 0) (sJ (aS A)).length (Int32.ofNat x))) 1 (upd (oa D 1) (sJ (aS A)).length (Int32.ofNat y))) 2 (upd (oa D 2) (sJ (aS A)).length (Int32.ofNat z))) 3 (Int32.ofNat ((sJ (aS A)).length + 1))) ⟨_, d1.p2, by rw [oi_si, if_pos rfl, List.length_append]; rfl, d3.push rfl rfl rfl⟩
            have qq := q.st7 (put.2.up (fun x hx => by omega)) put.1
            have put2 : Fr (fun x => 7 + 18 ≤ x ∧ x < 7 + 22) h (pt sX4 25 (si (sa (sa (sa D 0 (upd (oa D 0) (sJ (aS A)).length (Int32.ofNat x))) 1 (upd (oa D 1) (sJ (aS A)).length (Int32.ofNat y))) 2 (upd (oa D 2) (sJ (aS A)).length (Int32.ofNat z))) 3 (Int32.ofNat ((sJ (aS A)).length + 1))) h) := put.2
            have qq : RC (setS A (sR (aS A), sE (aS A), sS (aS A), sP (aS A), sJ (aS A) ++ [(x, y, z)], sB (aS A))) b mk (pt sX4 25 (si (sa (sa (sa D 0 (upd (oa D 0) (sJ (aS A)).length (Int32.ofNat x))) 1 (upd (oa D 1) (sJ (aS A)).length (Int32.ofNat y))) 2 (upd (oa D 2) (sJ (aS A)).length (Int32.ofNat z))) 3 (Int32.ofNat ((sJ (aS A)).length + 1))) h) := qq
            have r3 := qq.stt
            have r4 := qq.e9.2.2.2.2.2.2.2.1
            have x1 : h = pt sX4 25 D h := d1.2.symm
            refine ⟨_, ?_, ⟨b, mk, qq⟩, put2.nmd (fun x hx => by omega)⟩
            have sevn : ∀ {α : Type} (y : α) (z : α), (if (1 : Int32) = 0 then y else z) = z := fun y z => if_neg (by decide)
            have core : (gb (gfR 4 0 25 h) fun zt3 => gb (some (Int32.ofNat (sJ (aS A)).length)) fun zt4 => gb (asI 0 zt3 zt4 (Int32.ofNat x) h) fun zh5 => gb (gfR 4 1 25 zh5) fun zt6 => gb (gfI 4 3 25 zh5) fun zt7 => gb (asI 0 zt6 zt7 (Int32.ofNat y) zh5) fun zh8 => gb (gfR 4 2 25 zh8) fun zt9 => gb (gfI 4 3 25 zh8) fun zt10 => gb (asI 0 zt9 zt10 (Int32.ofNat z) zh8) fun zh11 => gb (gfI 4 3 25 zh11) fun zt12 => gb (pfV 4 3 25 (.int (zt12 + 1)) zh11) fun zh13 => gg (gzb 1) (some ((1 : Int32), zh13))) = some (1, pt sX4 25 (si (sa (sa (sa D 0 (upd (oa D 0) (sJ (aS A)).length (Int32.ofNat x))) 1 (upd (oa D 1) (sJ (aS A)).length (Int32.ofNat y))) 2 (upd (oa D 2) (sJ (aS A)).length (Int32.ofNat z))) 3 (Int32.ofNat ((sJ (aS A)).length + 1))) h) := by
              rw [x1]
              simp (disch := first | (with_reducible assumption) | (simp only [oi_si, oi_sl, oi_sa, oi_sm, oi_sv, oi_sq, ol_si, ol_sl, ol_sa, ol_sm, ol_sv, ol_sq, oa_si, oa_sl, oa_sa, oa_sm, oa_sv, oa_sq, om_si, om_sl, om_sa, om_sm, om_sv, om_sq, ov_si, ov_sl, ov_sa, ov_sm, ov_sv, ov_sq, oq_si, oq_sl, oq_sa, oq_sm, oq_sv, oq_sq, Nat.reduceEqDiff, ↓reduceIte]; done) | omega | (exact ixn (by omega) (by omega)) | (exact ixl (by decide) (by decide)) | (simp only [pt_len, pl, z0, z1, z2, z3, z4, z5, z6, z7, z8, z9, z10, z11, z12]; omega)) only [↓gb_m, ↓gc_m, ↓gl_s, ↓gg_m, gb_s, gc_s, gg_t, gqm_0, gqm_1, pt_pt, sa_sa, sm_sm, si_si, qk4, qg4_0, qg4_1, qg4_2, qg4_3, qs4_3, qa4_0, qe4_0, ql4_0, qa4_1, qe4_1, ql4_1, qa4_2, qe4_2, ql4_2, oi_si, oi_sl, oi_sa, oi_sm, oi_sv, oi_sq, ol_si, ol_sl, ol_sa, ol_sm, ol_sv, ol_sq, oa_si, oa_sl, oa_sa, oa_sm, oa_sv, oa_sq, om_si, om_sl, om_sa, om_sm, om_sv, om_sq, ov_si, ov_sl, ov_sa, ov_sm, ov_sv, ov_sq, oq_si, oq_sl, oq_sa, oq_sm, oq_sv, oq_sq, Nat.reduceEqDiff, ↓reduceIte, n_add, n_addl, n_ladd, n_add1, n_mul, n_lmul, n_mull, n_sub, n_subl, n_subm, n_lt, n_le, n_eq, n_ltl, n_llt, n_lel, n_lle, n_eql, n_leq, n_m1, n_m1l, n_lt0, n_ge0, i_okc, i_okl, if_true, if_false, not_true, not_false, Nat.not_lt_zero, Nat.zero_le, d2, gnar_0, gzb1]
            rw [core, gc_s, sevn, r3, gb_s, r4, gb_s, (d1.p2).gI (k := 3) rfl rfl, gb_s, oi_si, if_pos rfl]
          · have ok : jobOk A (Int32.ofNat x) (Int32.ofNat y) (Int32.ofNat z) = false := by
              unfold jobOk
              rw [decide_eq_false z5, Bool.and_false]
            have l5 : ¬ Int32.ofNat (sJ (aS A)).length < 7 := of_eq_false (nltF (b := 7) z5 (by omega) (by omega))
            rw [if_neg l5, gzb0, gg_t, gc_s, if_pos rfl]
            exact bad ok
theorem c_doneTold {D : OD} {h : PH} {p : Nat} {J : List Tri} (hN : 2000 ≤ N) (d1 : At sX4 p D h) (d2 : oi D 3 = Int32.ofNat J.length) (d3 : RepTri J D) (hJ : JOk J) : f_X4_doneAsTold N p h = some (Int32.ofNat (doneS J (List.range J.length)), h) := by
  have bnd : ∀ k, k ≤ J.length → (dbS J (List.range k)).1 ≤ 99 + 99 * k ∧ (dbS J (List.range k)).2.1 ≤ 198 + 99 * k := by
    intro k
    induction k with
    | zero => intro _; exact ⟨Nat.zero_le _, Nat.zero_le _⟩
    | succ k ih =>
      intro hk
      obtain ⟨a, b⟩ := ih (by omega)
      have e : dbS J (List.range (k + 1)) = dbF J (dbS J (List.range k)) k := by
        unfold dbS
        rw [List.range_succ, List.foldl_append]
        rfl
      have hk2 : k < J.length := by omega
      have ej : J.getD k (0, 0, 0) = J[k] := by rw [List.getD_eq_getElem?_getD, List.getElem?_eq_getElem hk2]; rfl
      have := hJ.2 J[k] (List.getElem_mem hk2)
      rw [e]
      unfold dbF jOn
      rw [ej]
      constructor
      · show (if _ < _ then _ else _) + _ ≤ _
        split <;> omega
      · show (if _ < (if _ < _ then _ else _) + _ + _ then _ else _) ≤ _
        split <;> split <;> omega
  have hl := hJ.1
  have lp : ∀ n k m, k + n = J.length → n < m → gi (fun zk zs => f_X4_doneAsTold_6 N zk zs.1 zs.2.1 zs.2.2.1 zs.2.2.2.1 zs.2.2.2.2) m (p, Int32.ofNat (dbS J (List.range k)).2.1, Int32.ofNat (dbS J (List.range k)).1, Int32.ofNat k, h) = some (Int32.ofNat (doneS J (List.range J.length)), h) := by
    intro n
    induction n with
    | zero =>
      intro k m hk hm
      have : k = J.length := by omega
      subst this
      obtain ⟨m, rfl⟩ : ∃ j, m = j + 1 := ⟨m - 1, by omega⟩
      rw [gi_1]
      dsimp only
      unfold f_X4_doneAsTold_6
      rw [d1.gI (k := 3) rfl rfl, gb_s, d2, if_pos (of_eq_true (nleT (Nat.le_refl _) (by omega) (by omega)))]
      rfl
    | succ n ih =>
      intro k m hk hm
      obtain ⟨m, rfl⟩ : ∃ j, m = j + 1 := ⟨m - 1, by omega⟩
      have ih2 := ih (k + 1) m (by omega) (by omega)
      have hk2 : k < J.length := by omega
      have ej : J.getD k (0, 0, 0) = J[k] := by rw [List.getD_eq_getElem?_getD, List.getElem?_eq_getElem hk2]; rfl
      have hb := hJ.2 J[k] (List.getElem_mem hk2)
      obtain ⟨t1, t2, t3⟩ := d3 k J[k] (List.getElem?_eq_getElem hk2)
      obtain ⟨b1, b2⟩ := bnd k (by omega)
      have e : dbS J (List.range (k + 1)) = dbF J (dbS J (List.range k)) k := by
        unfold dbS
        rw [List.range_succ, List.foldl_append]
        rfl
      rw [gi_1]
      generalize hz : gi _ m = zk at ih2
      dsimp only
      unfold f_X4_doneAsTold_6
      have i1 : ixok (Int32.ofNat k) 7 := ixn (by omega) (by omega)
      rw [d1.gI (k := 3) rfl rfl, gb_s, d2, if_neg (of_eq_false (nleF (by omega) (by omega) (by omega))), d1.gR (k := 0) rfl rfl, gb_s, d1.aI (j := 0) rfl i1, gb_s, i_okc (by omega), t1, d1.gR (k := 1) rfl rfl, gb_s, d1.aI (j := 1) rfl i1, gb_s, i_okc (by omega), t2, gl_s, d1.gR (k := 2) rfl rfl, gb_s, d1.aI (j := 2) rfl i1, gb_s, i_okc (by omega), t3, gl_s, gl_s, n_add1, gmax_n (by omega) (by omega), n_add, n_add, gmax_n (by omega) (by split <;> omega)]
      rw [e] at ih2
      unfold dbF jOn at ih2
      rw [ej] at ih2
      exact ih2
  exact lp J.length 0 N (by omega) (by omega)
theorem c_told (hN : 2000 ≤ N) (hA' : AOk A) : CAns A A (f_X11_told N 0) (ansTold A) := by
  refine CAns.ro (fun h q => ?_)
  obtain ⟨b, mk, q⟩ := q
  obtain ⟨D, d1, d2, d3⟩ := q.jobs
  have hJ := hA'.2.1.jobs
  have hl7 := hJ.1
  unfold f_X11_told f_X11_told_27 ansTold
  rw [q.stt, gb_s, q.e9.2.2.2.2.2.2.2.1, gb_s, d1.gI (k := 3) rfl rfl, gb_s, d2]
  by_cases z : (sJ (aS A)).length = 0
  · rw [if_pos (by rw [z]; rfl), if_pos z]
  · have n0 : ¬ Int32.ofNat (sJ (aS A)).length = 0 := of_eq_false (neqF (b := 0) z (by omega) (by omega))
    rw [if_neg n0, if_neg z, gb_s, q.e9.2.2.2.2.2.2.2.1, gb_s, d1.is rfl, gg_t, c_doneTold hN d1 d2 d3 hJ, gc_s]
theorem c_clear : CAns A (clearS A) (f_X11_clear N 0) 1 := by
  intro h q
  obtain ⟨b, mk, q⟩ := q
  obtain ⟨D, d1, d2, d3⟩ := q.sigh
  have p1 := q.2.2.2.2.2.2.1.p8 (l := []) (D := si D 5 0) ⟨_, d1.p2, by rw [oi_si, if_pos rfl]; rfl, fun k x hx => by cases hx⟩
  have p1 : RSt (aI A) (sR (aS A), sE (aS A), [], sP (aS A), sJ (aS A), sB (aS A)) 7 (pt sX8 16 (si D 5 0) h) ∧ Fr (fun x => 16 ≤ x ∧ x < 22) h (pt sX8 16 (si D 5 0) h) := p1
  have q2 := q.st7 (p1.2.up (fun x hx => by omega)) p1.1
  obtain ⟨D', e1, e2, e3⟩ := q2.jobs
  have p2 := p1.1.p4 (J := []) (D := si D' 3 0) ⟨_, e1.p2, by rw [oi_si, if_pos rfl]; rfl, fun k x hx => by cases hx⟩
  have p2 : RSt (aI A) (sR (aS A), sE (aS A), [], sP (aS A), [], sB (aS A)) 7 (pt sX4 25 (si D' 3 0) (pt sX8 16 (si D 5 0) h)) ∧ Fr (fun x => 25 ≤ x ∧ x < 29) (pt sX8 16 (si D 5 0) h) (pt sX4 25 (si D' 3 0) (pt sX8 16 (si D 5 0) h)) := p2
  have q3 := q2.st7 (p2.2.up (fun x hx => by omega)) p2.1
  refine ⟨_, ?_, ⟨b, mk, q3⟩, (p1.2.nmd (fun x hx => by omega)).tr (p2.2.nmd (fun x hx => by omega))⟩
  unfold f_X11_clear
  rw [q.stt, gb_s, q.e9.2.2.2.2.2.1, gb_s, d1.sI (k := 5) rfl rfl, gb_s, q2.stt, gb_s, q2.e9.2.2.2.2.2.2.2.1, gb_s, e1.sI (k := 3) rfl rfl, gb_s, gzb1, gg_t]
theorem c_pages {D : OD} {h : PH} {p : Nat} {P : Nat → Nat} (hN : 2000 ≤ N) (d1 : At sX6 p D h) (d2 : ∀ g, g < 10 → oa D 0 g = Int32.ofNat (P g)) (hP : ∀ g, P g < 2147483648) : f_X6_pages N p h = some (Int32.ofNat (cntP P 10), h) := by
  have lp : ∀ n k m, k + n = 10 → n < m → gi (fun zk zs => f_X6_pages_4 N zk zs.1 zs.2.1 zs.2.2.1 zs.2.2.2) m (p, Int32.ofNat (cntP P k), Int32.ofNat k, h) = some (Int32.ofNat (cntP P 10), h) := by
    intro n
    induction n with
    | zero =>
      intro k m hk hm
      have : k = 10 := by omega
      subst this
      obtain ⟨m, rfl⟩ : ∃ j, m = j + 1 := ⟨m - 1, by omega⟩
      rw [gi_1]
      dsimp only
      unfold f_X6_pages_4
      rw [if_pos (by decide)]
    | succ n ih =>
      intro k m hk hm
      obtain ⟨m, rfl⟩ : ∃ j, m = j + 1 := ⟨m - 1, by omega⟩
      have ih2 := ih (k + 1) m (by omega) (by omega)
      rw [gi_1]
      generalize hz : gi _ m = zk at ih2
      dsimp only
      unfold f_X6_pages_4 f_X6_pages_25
      have c10 : ¬ (10 : Int32) ≤ Int32.ofNat k := of_eq_false (nleF (a := 10) (by omega) (by omega) (by omega))
      rw [if_neg c10, d1.gR (k := 0) rfl rfl, gb_s, d1.aI (j := 0) rfl (ixn (by omega) (by omega)), gb_s, i_okc (by omega), d2 k (by omega)]
      have ce : cntP P (k + 1) = cntP P k + if P k = 0 then 0 else 1 := rfl
      rw [ce] at ih2
      by_cases w : P k = 0
      · rw [if_pos w] at ih2
        rw [if_pos (by rw [w]; rfl), gl_s, gl_s]
        show zk (p, Int32.ofNat (cntP P k) + Int32.ofNat 0, Int32.ofNat k + 1, h) = _
        rw [n_add, n_add1]
        exact ih2
      · have n0 : ¬ Int32.ofNat (P k) = 0 := of_eq_false (neqF (b := 0) w (hP k) (by omega))
        rw [if_neg w] at ih2
        rw [if_neg n0, gl_s, gl_s, n_add1, n_add1]
        exact ih2
  exact lp 10 0 N (by omega) (by omega)
theorem cntP_z {P : Nat → Nat} : ∀ {n m : Nat}, n ≤ m → (∀ g, n ≤ g → P g = 0) → cntP P m = cntP P n := by
  intro n m
  induction m with
  | zero => intro h _; have : n = 0 := by omega
            subst this; rfl
  | succ m ih =>
    intro h hz
    rcases Nat.lt_or_ge n (m + 1) with w | w
    · have ce : cntP P (m + 1) = cntP P m + if P m = 0 then 0 else 1 := rfl
      rw [ce, if_pos (hz m (by omega)), ih (by omega) hz, Nat.add_zero]
    · have : n = m + 1 := by omega
      subst this
      rfl
theorem pg_lt {I : IA} {S : SA} (hI : IOk I) (hS : SOk I S) (g : Nat) : sP S g < 1024 := by
  have h1 := (hS.2.2.2.2.2.1 g).1
  have h2 : 2 ^ iR I ≤ 2 ^ 10 := Nat.pow_le_pow_right (by omega) hI.1
  have : (2 : Nat) ^ 10 = 1024 := rfl
  omega
end CEasy

