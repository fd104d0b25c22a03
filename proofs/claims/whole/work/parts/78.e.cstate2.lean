/-! The component: a state takes in and lets out, whole -/
/-- what is known of the trial houses when i of them are through -/
def TI (I : IA) (S : SA) (e : Ev) (q i : Nat) (h : PH) : Prop := ∀ j, j < 5 → ∃ D, At sX1 (q + 22 + 5 * j) D h ∧ (j ≤ iK I → RepH I (if j < i then replay I (fun _ => rlI j) (sE S ++ [e]) else replay I (fun _ => rlI j) (sE S)) D)
theorem rlI_gt {i K : Nat} (hK : K < 100) (hi : i ≤ K) : (Int32.ofNat K ≤ eO (rlI i)) = False := by
  cases i with
  | zero =>
    refine eq_false ?_
    show ¬ Int32.ofNat K ≤ -1
    rw [i_le, i_ok (by omega)]
    have : (-1 : Int32).toInt = -1 := by decide
    omega
  | succ k => exact nleF (by omega) (by omega) (by omega)
theorem rlI_ge {K : Nat} (hK : K < 100) : (Int32.ofNat K ≤ eO (rlI (K + 1))) = True := nleT (Nat.le_refl _) (by omega) (by omega)
section CState2
variable {N : Nat} {h : PH} {I : IA} {S : SA} {q c : Nat} {E : OD}
theorem TI.z (t : rTs I (sE S) q h) (e : Ev) : TI I S e q 0 h := by
  intro j hj
  obtain ⟨D, a, b⟩ := t j hj
  exact ⟨D, a, fun hk => by rw [if_neg (by omega)]; exact b hk⟩
theorem TI.all {e : Ev} (t : TI I S e q (iK I + 1) h) {S' : SA} (e1 : sE S' = sE S ++ [e]) : rTs I (sE S') q h := by
  intro j hj
  obtain ⟨D, a, b⟩ := t j hj
  refine ⟨D, a, fun hk => ?_⟩
  have := b hk
  rw [if_pos (by omega)] at this
  rw [e1]
  exact this
/-- the trial house i has been changed -/
theorem TI.step {e : Ev} {i : Nat} {h' : PH} {P : Nat → Prop} (t : TI I S e q i h) (hi : i ≤ iK I) (hi5 : i < 5) {D' : OD} (d : At sX1 (q + 22 + 5 * i) D' h') (dr : RepH I (replay I (fun _ => rlI i) (sE S ++ [e])) D') (f : Fr P h h') (hP : ∀ x, P x → (q + 22 + 5 * i ≤ x ∧ x < q + 22 + 5 * i + 5) ∨ x < q + 22 ∨ q + 47 ≤ x) : TI I S e q (i + 1) h' := by
  intro j hj
  by_cases w : j = i
  · subst w
    exact ⟨D', d, fun _ => by rw [if_pos (by omega)]; exact dr⟩
  · obtain ⟨D, a, b⟩ := t j hj
    refine ⟨D, a.fr f (fun x h1 h2 => ?_), fun hk => ?_⟩
    · simp only [z1] at h2
      intro z
      have := hP x z
      omega
    · have := b hk
      by_cases y : j < i
      · rw [if_pos y] at this
        rw [if_pos (by omega)]
        exact this
      · rw [if_neg y] at this
        rw [if_neg (by omega)]
        exact this
theorem c_sTakeIn (hN : 2000 ≤ N) (r : RSt I S q h) (hI : IOk I) (hS : SOk I S) (hE : At sX2 c E h) (hE2 : RepIC I E) (hqc : q + 47 ≤ c ∨ c + 7 ≤ q) {g m : Nat} (hm : m ≤ 99999) (hl : (sE S).length < 100) (he : ev1 I (insS (sE S)) (nInS (sE S)) (g, false, m, sR S)) :
    ∃ h', f_X9_takeIn N q c (Int32.ofNat g) (Int32.ofNat m) h = some h' ∧ Fr (fun x => q ≤ x ∧ x < q + 47) h h' ∧ RSt I (addE S (g, false, m, sR S)) q h' := by
  have i1 := hI.1
  have i2 := hI.2.1
  have i3 := hI.2.2.1
  have hg : g < iG I := he.1
  obtain ⟨h1, n1, n2, n3, n4⟩ := c_note (N := N) r hI hS hm
  obtain ⟨a1, a2, a3, a4, a5, a6, a7, a8⟩ := r
  have n5 : r9 ((sR S, sE S ++ [(g, false, m, sR S)], sS S, sP S, sJ S, sB S) : SA) q h1 := by
    obtain ⟨D, d1, d2, d7, d8, d9, d10⟩ := n4
    refine ⟨D, d1, d2, d7, d8, ?_, ?_⟩
    · show _ = Int32.ofNat (lastM (sE S ++ [(g, false, m, sR S)]))
      rw [lastM_a]
      exact d9
    · show _ = Int32.ofNat (sE S ++ [(g, false, m, sR S)]).length
      rw [List.length_append]
      exact d10
  have e1 : At sX2 c E h1 := hE.fr n2 (fun x x1 x2 => by simp only [z2] at x2; omega)
  -- the house, with its diary
  obtain ⟨D, d1, d2⟩ := a2.fr n2 (fun x x1 x2 => by omega)
  obtain ⟨G, g1, g2⟩ := n3
  have fit := replay_fit hI (fun e => e.2.2.2) hS.2.2.1
  have hH : HOk I (hCl m (hR I S)) := fit.1.1
  have hn : ∀ rl, ¬ inH (hCl m (replay I rl (sE S))) g := fun rl z => by
    have f2 := replay_fit hI rl hS.2.2.1
    have := (f2.1.2.1 g).mp z
    have e4 := he.2.2.2
    simp only [Bool.false_eq_true, if_false] at e4
    rw [e4.1] at this
    cases this
  have hf : ∀ rl, gapS I (hCl m (replay I rl (sE S))) < iR I := fun rl => by
    have f2 := replay_fit hI rl hS.2.2.1
    rw [gap_full]
    have e4 := he.2.2.2
    simp only [Bool.false_eq_true, if_false] at e4
    show occN (hO (replay I rl (sE S))) (iR I) < iR I
    rw [f2.1.2.2]
    exact e4.2
  have rp : ∀ rl, replay I rl (sE S ++ [(g, false, m, sR S)]) = comeS I g (hCl m (replay I rl (sE S))) := fun rl => by
    rw [replay_a]
    rfl
  have l1 : q + 1 + 5 ≤ h1.length := d1.1
  have l2 : q + 7 + 2 ≤ h1.length := g1.1
  obtain ⟨D2, G2, t1, t2, t3⟩ := c_takeIn (N := N) (dia := some (q + 7)) (n := 0) hN l1 e1 hE2 (by omega) (fun d hd => by cases hd; exact ⟨l2, by omega, by omega⟩) hg hH (hn _) (hf _) (D := D) (G := G) d2 (fun d _ => ⟨g2, replay_LC hI hS.2.2.1 hl hm⟩)
  have t1 : f_X1_takeIn N (q + 1) c (Int32.ofNat g) (some (q + 7)) (pt sX1 (q + 1) D (pt sX0 (q + 7) G h1)) = some (pt sX1 (q + 1) D2 (pt sX0 (q + 7) G2 h1)) := t1
  rw [g1.2, d1.2] at t1
  have f3 : Fr (fun x => (q + 1 ≤ x ∧ x < q + 6) ∨ (q + 7 ≤ x ∧ x < q + 9)) h1 (pt sX1 (q + 1) D2 (pt sX0 (q + 7) G2 h1)) := (Fr.of (fun x x1 x2 => by simp only [z0] at x2; omega)).tr (Fr.of (fun x x1 x2 => by simp only [z1] at x2; omega))
  have d3 : At sX1 (q + 1) D2 (pt sX1 (q + 1) D2 (pt sX0 (q + 7) G2 h1)) := At_pt (by rw [pt_len]; exact l1)
  have g3 : At sX0 (q + 7) G2 (pt sX1 (q + 1) D2 (pt sX0 (q + 7) G2 h1)) := (g1.p2).out (by simp only [z0, z1]; omega)
  generalize hh3 : pt sX1 (q + 1) D2 (pt sX0 (q + 7) G2 h1) = h3 at t1 f3 d3 g3
  -- the trials
  have n6 := n5.fr f3 (by omega)
  have tr3 := (a3.fr n2 (by omega)).fr f3 (by omega)
  have e3 : At sX2 c E h3 := e1.fr f3 (fun x x1 x2 => by simp only [z2] at x2; omega)
  have ti3 : TI I S (g, false, m, sR S) q 0 h3 := TI.z ((a8.fr n2 (fun x x1 x2 => by omega)).fr f3 (fun x x1 x2 => by omega)) _
  obtain ⟨h4, ⟨k1, k2⟩, k3⟩ := c_trials (B := fun zk zs => f_X9_takeIn_21 N zk zs.1 zs.2.1 zs.2.2.1 zs.2.2.2.1 zs.2.2.2.2) (fin := fun hc => gb (gfI 9 7 q hc) fun zt3 => gb (pfV 9 7 q (.int (zt3 &&& ((1 <<< (Int32.ofNat g &&& 31)) ^^^ (-1)))) hc) fun zh4 => some zh4) (Inv := fun i hc => Fr (fun x => q + 22 ≤ x ∧ x < q + 47) h3 hc ∧ TI I S (g, false, m, sR S) q i hc) (K := iK I) (q := q) (c := c) (g := Int32.ofNat g) (by
      intro i hc zk hi hinv
      obtain ⟨fi, ti⟩ := hinv
      have ei : At sX2 c E hc := e3.fr fi (fun x x1 x2 => by simp only [z2] at x2; omega)
      have ni := n6.fr fi (by omega)
      have tri := tr3.fr fi (by omega)
      obtain ⟨Di, di, dri⟩ := ti i (by omega)
      have dri := dri hi
      rw [if_neg (by omega)] at dri
      have fi2 := replay_fit hI (fun _ => rlI i) hS.2.2.1
      have li : q + 22 + 5 * i + 5 ≤ hc.length := di.1
      obtain ⟨Dj, Gj, u1, u2, u3⟩ := c_takeIn (N := N) (dia := none) (n := 0) (h := hc) hN li ei hE2 (by omega) (fun d hd => by cases hd) hg (H := hCl m (replay I (fun _ => rlI i) (sE S))) fi2.1.1 (hn _) (hf _) (D := Di) (G := Di) dri (fun d hd => by cases hd)
      have u1 : f_X1_takeIn N (q + 22 + 5 * i) c (Int32.ofNat g) none (pt sX1 (q + 22 + 5 * i) Di hc) = some (pt sX1 (q + 22 + 5 * i) Dj hc) := u1
      rw [di.2] at u1
      refine ⟨pt sX1 (q + 22 + 5 * i) Dj hc, ⟨fi.tr (Fr.of (fun x x1 x2 => by simp only [z1] at x2; omega)), ?_⟩, ?_⟩
      · exact ti.step (P := fun x => q + 22 + 5 * i ≤ x ∧ x < q + 22 + 5 * i + 5) hi (by omega) di.p2 (by rw [rp]; exact u2) (Fr.of (fun x x1 x2 => by simp only [z1] at x2; omega)) (fun x hx => Or.inl hx)
      · show f_X9_takeIn_21 N zk q c (Int32.ofNat g) (eO (rlI i)) hc = _
        unfold f_X9_takeIn_21
        rw [ei.gI (k := 2) rfl rfl, gb_s, hE2.2.2.2.1, if_neg (of_eq_false (rlI_gt (by omega) hi)), ni.e.1, gg_t, c_trialOf ni tri (by omega), gc_s, di.is rfl, gg_t, u1, gb_s, gl_s, rlI_s])
    (by
      intro hc zk hinv
      obtain ⟨fi, ti⟩ := hinv
      have ei : At sX2 c E hc := e3.fr fi (fun x x1 x2 => by simp only [z2] at x2; omega)
      show f_X9_takeIn_21 N zk q c (Int32.ofNat g) (eO (rlI (iK I + 1))) hc = _
      unfold f_X9_takeIn_21
      rw [ei.gI (k := 2) rfl rfl, gb_s, hE2.2.2.2.1, if_pos (of_eq_true (rlI_ge (by omega)))])
    (iK I + 1) 0 N h3 (by omega) (by omega) ⟨Fr.rf, ti3⟩
  -- booked
  obtain ⟨D9, w1, w2, w7, w8, w9, w10⟩ := n6.fr k1 (by omega)
  have w5 : At sX9 q (si D9 7 (Int32.ofNat (msk (fu (fun g => (sB S).contains g) g false) 10))) (pt sX9 q (si D9 7 (Int32.ofNat (msk (fu (fun g => (sB S).contains g) g false) 10))) h4) := w1.p2
  have ff : Fr (fun x => x = q) h4 (pt sX9 q (si D9 7 (Int32.ofNat (msk (fu (fun g => (sB S).contains g) g false) 10))) h4) := Fr.of (fun x x1 x2 => by simp only [z9] at x2; omega)
  have w7 : oi D9 7 = Int32.ofNat (msk (fun g => (sB S).contains g) 10) := w7
  refine ⟨pt sX9 q (si D9 7 (Int32.ofNat (msk (fu (fun g => (sB S).contains g) g false) 10))) h4, ?_, ?_, ?_⟩
  · unfold f_X9_takeIn
    have k3 : gi (fun zk zs => f_X9_takeIn_21 N zk zs.1 zs.2.1 zs.2.2.1 zs.2.2.2.1 zs.2.2.2.2) N (q, c, Int32.ofNat g, -1, h3) = _ := k3
    rw [a1.e.1, gg_t, n1, gb_s, n5.e.2.2.1, gb_s, n5.e.2.2.2.2.1, gb_s, d1.is rfl, gg_t, t1, gb_s, k3]
    show (gb (gfI 9 7 q h4) fun zt3 => gb (pfV 9 7 q (.int (zt3 &&& ((1 <<< (Int32.ofNat g &&& 31)) ^^^ (-1)))) h4) fun zh4 => some zh4) = _
    rw [w1.gI (k := 7) rfl rfl, gb_s, w7, shl1 g (by omega), msk_out _ (by omega), w1.sI (k := 7) rfl rfl, gb_s]
  · exact (((n2.up (fun x hx => by omega)).tr (f3.up (fun x hx => by omega))).tr (k1.up (fun x hx => by omega))).tr (ff.up (fun x hx => by omega))
  · have eR : hR I (addE S (g, false, m, sR S)) = comeS I g (hCl m (hR I S)) := rp _
    refine ⟨⟨_, w5, w2, ?_, w8, w9, w10⟩, ?_, ?_, ?_, ?_, ?_, ?_, ?_⟩
    · rw [oi_si, if_pos rfl]
      congr 1
      refine msk_ext (fun k _ => ?_)
      show fu (fun g => (sB S).contains g) g false k = ((sB S).filter (· ≠ g)).contains k
      rw [fu_at, Bool.eq_iff_iff]
      by_cases y : k = g
      · rw [if_pos y]
        simp [y]
      · rw [if_neg y]
        simp [y]
    · rw [eR]
      exact (r1.fr (r1.fr ⟨D2, d3, t2⟩ k1 (fun x x1 x2 => by omega)) ff (fun x x1 x2 => by omega))
    · exact (tr3.fr k1 (by omega)).fr ff (by omega)
    · rw [eR]
      exact (r0.fr (r0.fr ⟨G2, g3, (t3 _ rfl).1⟩ k1 (fun x x1 x2 => by omega)) ff (fun x x1 x2 => by omega))
    · exact ((((a5.fr n2 (fun x x1 x2 => by omega)).fr f3 (fun x x1 x2 => by omega)).fr k1 (fun x x1 x2 => by omega)).fr ff (fun x x1 x2 => by omega))
    · exact ((((a6.fr n2 (fun x x1 x2 => by omega)).fr f3 (fun x x1 x2 => by omega)).fr k1 (fun x x1 x2 => by omega)).fr ff (fun x x1 x2 => by omega))
    · exact ((((a7.fr n2 (fun x x1 x2 => by omega)).fr f3 (fun x x1 x2 => by omega)).fr k1 (fun x x1 x2 => by omega)).fr ff (fun x x1 x2 => by omega))
    · exact (TI.all k2 (S' := addE S (g, false, m, sR S)) rfl).fr ff (fun x x1 x2 => by omega)
end CState2

