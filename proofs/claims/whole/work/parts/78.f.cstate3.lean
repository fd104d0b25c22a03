/-! The component: a state lets out; come, leave -/
section CState3
variable {N : Nat} {h : PH} {I : IA} {S : SA} {q c : Nat} {E : OD}
theorem c_sLetOut (hN : 2000 ≤ N) (r : RSt I S q h) (hI : IOk I) (hS : SOk I S) (hE : At sX2 c E h) (hE2 : RepIC I E) (hqc : q + 47 ≤ c ∨ c + 7 ≤ q) (hq : 7 ≤ q) (hc : 7 ≤ c) {K : OD} (hK : At sX7 4 K h) {g m : Nat} (hm : m ≤ 99999) (hl : (sE S).length < 100) (he : ev1 I (insS (sE S)) (nInS (sE S)) (g, true, m, sR S)) :
    ∃ h', f_X9_letOut N q c (Int32.ofNat g) (Int32.ofNat m) h = some h' ∧ Fr (fun x => (q ≤ x ∧ x < q + 47) ∨ (4 ≤ x ∧ x < 7)) h h' ∧ RSt I (addE S (g, true, m, sR S)) q h' ∧ c7 h' := by
  have i1 := hI.1
  have i2 := hI.2.1
  have i3 := hI.2.2.1
  have hg : g < iG I := he.1
  obtain ⟨h1, n1, n2, n3, n4⟩ := c_note (N := N) r hI hS hm
  obtain ⟨a1, a2, a3, a4, a5, a6, a7, a8⟩ := r
  have n5 : r9 (addE S (g, true, m, sR S)) q h1 := by
    obtain ⟨D, d1, d2, d7, d8, d9, d10⟩ := n4
    refine ⟨D, d1, d2, d7, d8, ?_, ?_⟩
    · show _ = Int32.ofNat (lastM (sE S ++ [(g, true, m, sR S)]))
      rw [lastM_a]
      exact d9
    · show _ = Int32.ofNat (sE S ++ [(g, true, m, sR S)]).length
      rw [List.length_append]
      exact d10
  have e1 : At sX2 c E h1 := hE.fr n2 (fun x x1 x2 => by simp only [z2] at x2; omega)
  have m1 : At sX7 4 K h1 := hK.fr n2 (fun x x1 x2 => by simp only [z7] at x2; omega)
  -- the house, with its diary
  obtain ⟨D, d1, d2⟩ := a2.fr n2 (fun x x1 x2 => by omega)
  obtain ⟨G, g1, g2⟩ := n3
  have fit := replay_fit hI (fun e => e.2.2.2) hS.2.2.1
  have hH : HOk I (hCl m (hR I S)) := fit.1.1
  have hin : ∀ rl, ∃ a, hO (hCl m (replay I rl (sE S))) a = some g := fun rl => by
    have f2 := replay_fit hI rl hS.2.2.1
    have e4 := he.2.2.2
    simp only [if_true] at e4
    exact (f2.1.2.1 g).mpr e4
  have rp : ∀ rl, replay I rl (sE S ++ [(g, true, m, sR S)]) = leaveS I g (rl (g, true, m, sR S)) (hCl m (replay I rl (sE S))) := fun rl => by
    rw [replay_a]
    rfl
  have l1 : q + 1 + 5 ≤ h1.length := d1.1
  have l2 : q + 7 + 2 ≤ h1.length := g1.1
  have l3 : 4 + 3 ≤ h1.length := m1.1
  have hp1 : LvP (q + 1) c 4 (some (q + 7)) h1 := ⟨l1, l3, by omega, by omega, by omega, fun d hd => by cases hd; exact ⟨l2, by omega, by omega, by omega⟩⟩
  obtain ⟨ar, har⟩ := hin (fun e => e.2.2.2)
  obtain ⟨D2, G2, K2, t1, t2, t3⟩ := c_letOut (N := N) (dia := some (q + 7)) (n := 0) hN hp1 e1 hE2 hH har (rule := sR S) hS.1 (D := D) (G := G) (K := K) d2 (fun d _ => ⟨g2, replay_LC hI hS.2.2.1 hl hm⟩)
  have hh1 : hh (q + 1) 4 (some (q + 7)) h1 D G K = h1 := by
    show pt sX1 (q + 1) D (pt sX0 (q + 7) G (pt sX7 4 K h1)) = h1
    rw [m1.2, g1.2, d1.2]
  rw [hh1] at t1
  have t1 : f_X1_letOut N (q + 1) c (Int32.ofNat g) (eO (sR S)) 4 (some (q + 7)) h1 = some (pt sX1 (q + 1) D2 (pt sX0 (q + 7) G2 (pt sX7 4 K2 h1))) := t1
  have f3 : Fr (fun x => (q + 1 ≤ x ∧ x < q + 6) ∨ (q + 7 ≤ x ∧ x < q + 9) ∨ (4 ≤ x ∧ x < 7)) h1 (pt sX1 (q + 1) D2 (pt sX0 (q + 7) G2 (pt sX7 4 K2 h1))) := ((Fr.of (fun x x1 x2 => by simp only [z7] at x2; omega)).tr (Fr.of (fun x x1 x2 => by simp only [z0] at x2; omega))).tr (Fr.of (fun x x1 x2 => by simp only [z1] at x2; omega))
  have d3 : At sX1 (q + 1) D2 (pt sX1 (q + 1) D2 (pt sX0 (q + 7) G2 (pt sX7 4 K2 h1))) := At_pt (by rw [pt_len, pt_len]; exact l1)
  have g3 : At sX0 (q + 7) G2 (pt sX1 (q + 1) D2 (pt sX0 (q + 7) G2 (pt sX7 4 K2 h1))) := (At_pt (by rw [pt_len]; exact l2)).out (by simp only [z0, z1]; omega)
  have m3 : At sX7 4 K2 (pt sX1 (q + 1) D2 (pt sX0 (q + 7) G2 (pt sX7 4 K2 h1))) := (m1.p2.out (by simp only [z0, z7]; omega)).out (by simp only [z7, z1]; omega)
  generalize hh3 : pt sX1 (q + 1) D2 (pt sX0 (q + 7) G2 (pt sX7 4 K2 h1)) = h3 at t1 f3 d3 g3 m3
  -- the trials
  have n6 := n5.fr f3 (by omega)
  have tr3 := (a3.fr n2 (by omega)).fr f3 (by omega)
  have e3 : At sX2 c E h3 := e1.fr f3 (fun x x1 x2 => by simp only [z2] at x2; omega)
  have ti3 : TI I S (g, true, m, sR S) q 0 h3 := TI.z ((a8.fr n2 (fun x x1 x2 => by omega)).fr f3 (fun x x1 x2 => by omega)) _
  obtain ⟨h4, ⟨k1, k2, k4⟩, k3⟩ := c_trials (B := fun zk zs => f_X9_letOut_29 N zk zs.1 zs.2.1 zs.2.2.1 zs.2.2.2.1 zs.2.2.2.2) (fin := fun hc => some hc) (Inv := fun i hc => Fr (fun x => (q + 22 ≤ x ∧ x < q + 47) ∨ (4 ≤ x ∧ x < 7)) h3 hc ∧ TI I S (g, true, m, sR S) q i hc ∧ c7 hc) (K := iK I) (q := q) (c := c) (g := Int32.ofNat g) (by
      intro i hc zk hi hinv
      obtain ⟨fi, ti, Ki, mi⟩ := hinv
      have ei : At sX2 c E hc := e3.fr fi (fun x x1 x2 => by simp only [z2] at x2; omega)
      have ni := n6.fr fi (by omega)
      have tri := tr3.fr fi (by omega)
      obtain ⟨Di, di, dri⟩ := ti i (by omega)
      have dri := dri hi
      rw [if_neg (by omega)] at dri
      have fi2 := replay_fit hI (fun _ => rlI i) hS.2.2.1
      have li : q + 22 + 5 * i + 5 ≤ hc.length := di.1
      have lm : 4 + 3 ≤ hc.length := mi.1
      obtain ⟨ai, hai⟩ := hin (fun _ => rlI i)
      have hpi : LvP (q + 22 + 5 * i) c 4 none hc := ⟨li, lm, by omega, by omega, by omega, fun d hd => by cases hd⟩
      obtain ⟨Dj, Gj, Kj, u1, u2, u3⟩ := c_letOut (N := N) (dia := none) (n := 0) (h := hc) hN hpi ei hE2 (H := hCl m (replay I (fun _ => rlI i) (sE S))) fi2.1.1 hai (rule := rlI i) (fun k hk => by cases i with
        | zero => cases hk
        | succ j => cases hk; omega) (D := Di) (G := Di) (K := Ki) dri (fun d hd => by cases hd)
      have u1 : f_X1_letOut N (q + 22 + 5 * i) c (Int32.ofNat g) (eO (rlI i)) 4 none (pt sX1 (q + 22 + 5 * i) Di (pt sX7 4 Ki hc)) = some (pt sX1 (q + 22 + 5 * i) Dj (pt sX7 4 Kj hc)) := u1
      rw [mi.2, di.2] at u1
      have fr2 : Fr (fun x => (q + 22 + 5 * i ≤ x ∧ x < q + 22 + 5 * i + 5) ∨ (4 ≤ x ∧ x < 7)) hc (pt sX1 (q + 22 + 5 * i) Dj (pt sX7 4 Kj hc)) := (Fr.of (fun x x1 x2 => by simp only [z7] at x2; omega)).tr (Fr.of (fun x x1 x2 => by simp only [z1] at x2; omega))
      refine ⟨pt sX1 (q + 22 + 5 * i) Dj (pt sX7 4 Kj hc), ⟨fi.tr (fr2.up (fun x hx => by omega)), ?_, ?_⟩, ?_⟩
      · exact ti.step hi (by omega) (At_pt (by rw [pt_len]; exact li)) (by rw [rp]; exact u2) fr2 (fun x hx => by omega)
      · exact ⟨Kj, mi.p2.out (by simp only [z7, z1]; omega)⟩
      · show f_X9_letOut_29 N zk q c (Int32.ofNat g) (eO (rlI i)) hc = _
        unfold f_X9_letOut_29
        rw [ei.gI (k := 2) rfl rfl, gb_s, hE2.2.2.2.1, if_neg (of_eq_false (rlI_gt (by omega) hi)), ni.e.1, gg_t, c_trialOf ni tri (by omega), gc_s, ni.e.2.1, gb_s, di.is rfl, gg_t, u1, gb_s, gl_s, rlI_s])
    (by
      intro hc zk hinv
      obtain ⟨fi, ti, _⟩ := hinv
      have ei : At sX2 c E hc := e3.fr fi (fun x x1 x2 => by simp only [z2] at x2; omega)
      show f_X9_letOut_29 N zk q c (Int32.ofNat g) (eO (rlI (iK I + 1))) hc = _
      unfold f_X9_letOut_29
      rw [ei.gI (k := 2) rfl rfl, gb_s, hE2.2.2.2.1, if_pos (of_eq_true (rlI_ge (by omega)))])
    (iK I + 1) 0 N h3 (by omega) (by omega) ⟨Fr.rf, ti3, K2, m3⟩
  refine ⟨h4, ?_, ?_, ?_, k4⟩
  · unfold f_X9_letOut
    have k3 : gi (fun zk zs => f_X9_letOut_29 N zk zs.1 zs.2.1 zs.2.2.1 zs.2.2.2.1 zs.2.2.2.2) N (q, c, Int32.ofNat g, -1, h3) = _ := k3
    have r8 : gfI 9 8 q h1 = some (eO (sR S)) := n5.e.2.2.2.2.2.2.2.2.2.1
    rw [a1.e.1, gg_t, n1, gb_s, n5.e.2.2.1, gb_s, r8, gb_s, n5.e.2.1, gb_s, n5.e.2.2.2.2.1, gb_s, d1.is rfl, gg_t, t1, gb_s, k3]
  · exact ((n2.up (fun x hx => by omega)).tr (f3.up (fun x hx => by omega))).tr (k1.up (fun x hx => by omega))
  · have eR : hR I (addE S (g, true, m, sR S)) = leaveS I g (sR S) (hCl m (hR I S)) := rp _
    refine ⟨n6.fr k1 (by omega), ?_, ?_, ?_, ?_, ?_, ?_, ?_⟩
    · rw [eR]
      exact r1.fr ⟨D2, d3, t2⟩ k1 (fun x x1 x2 => by omega)
    · exact tr3.fr k1 (by omega)
    · rw [eR]
      exact r0.fr ⟨G2, g3, (t3 _ rfl).1⟩ k1 (fun x x1 x2 => by omega)
    · exact (((a5.fr n2 (fun x x1 x2 => by omega)).fr f3 (fun x x1 x2 => by omega)).fr k1 (fun x x1 x2 => by omega))
    · exact (((a6.fr n2 (fun x x1 x2 => by omega)).fr f3 (fun x x1 x2 => by omega)).fr k1 (fun x x1 x2 => by omega))
    · exact (((a7.fr n2 (fun x x1 x2 => by omega)).fr f3 (fun x x1 x2 => by omega)).fr k1 (fun x x1 x2 => by omega))
    · exact TI.all k2 (S' := addE S (g, true, m, sR S)) rfl
end CState3
section CTell2
variable {N : Nat} {A : AA}
theorem why_lt (g m : Int32) (lv : Bool) : whyS A g m lv ≤ 5 := by
  unfold whyS
  repeat (first | (split; · decide) | decide)
theorem c_come (hN : 2000 ≤ N) (hA' : AOk A) (g m : Int32) : CAns A (tellS A g m false) (f_X11_come N 0 g m) (Int32.ofNat (whyS A g m false)) := by
  intro h q
  obtain ⟨b, mk, q⟩ := q
  obtain ⟨E, e1, e2⟩ := q.innR
  have w := c_why (N := N) hA' q g m false
  have w : f_X11_whyRefused N 0 g m 1 h = _ := w
  have wl := why_lt (A := A) g m false
  have cl := cu_lt b
  unfold f_X11_come f_X11_come_25 tellS
  rw [q.is11, gg_t, w, gc_s]
  by_cases z : whyS A g m false = 0
  · rw [if_pos z, z]
    obtain ⟨x, y, rfl, rfl, hx, hy, hl, hi, hn, he⟩ := why_0 hA' z
    have b2 := hA'.1.2.1
    obtain ⟨h', t1, t2, t3⟩ := c_sTakeIn (N := N) hN q.2.2.2.2.2.2.1 hA'.1 hA'.2.1 e1 e2 (by omega) hy he ⟨hx, hy, hA'.2.1.1, by simp only [Bool.false_eq_true, if_false]; exact ⟨hi, hn rfl⟩⟩
    rw [i_okc (by omega), i_okc (by omega)]
    refine ⟨h', ?_, ⟨b, mk, q.st7 (t2.up (fun x hx => by omega)) t3⟩, t2.nmd (fun x hx => by omega)⟩
    show (if (0 : Int32) = 0 then _ else _) = _
    rw [if_pos rfl, q.stt, gb_s, q.cur, gb_s, q.e9.1, gg_t, t1, gb_s]
  · have n0 : ¬ Int32.ofNat (whyS A g m false) = 0 := of_eq_false (neqF (b := 0) z (by omega) (by omega))
    rw [if_neg z, if_neg n0]
    exact ⟨h, rfl, ⟨b, mk, q⟩, Fr.rf⟩
theorem c_leave (hN : 2000 ≤ N) (hA' : AOk A) (g m : Int32) : CAns A (tellS A g m true) (f_X11_leave N 0 g m) (Int32.ofNat (whyS A g m true)) := by
  intro h q
  obtain ⟨b, mk, q⟩ := q
  obtain ⟨E, e1, e2⟩ := q.innR
  obtain ⟨K, k1⟩ := q.2.2.2.1
  have w := c_why (N := N) hA' q g m true
  have w : f_X11_whyRefused N 0 g m 0 h = _ := w
  have wl := why_lt (A := A) g m true
  have cl := cu_lt b
  unfold f_X11_leave f_X11_leave_25 tellS
  rw [q.is11, gg_t, w, gc_s]
  by_cases z : whyS A g m true = 0
  · rw [if_pos z, z]
    obtain ⟨x, y, rfl, rfl, hx, hy, hl, hi, hn, he⟩ := why_0 hA' z
    have b2 := hA'.1.2.1
    obtain ⟨h', t1, t2, t3, t4⟩ := c_sLetOut (N := N) hN q.2.2.2.2.2.2.1 hA'.1 hA'.2.1 e1 e2 (by omega) (by omega) (by omega) k1 hy he ⟨hx, hy, hA'.2.1.1, by simp only [if_true]; exact hi⟩
    rw [i_okc (by omega), i_okc (by omega)]
    refine ⟨h', ?_, ⟨b, mk, q.st (t2.up (fun x hx => by omega)) t4 t3⟩, t2.nmd (fun x hx => by omega)⟩
    show (if (0 : Int32) = 0 then _ else _) = _
    rw [if_pos rfl, q.stt, gb_s, q.cur, gb_s, q.e9.1, gg_t, t1, gb_s]
  · have n0 : ¬ Int32.ofNat (whyS A g m true) = 0 := of_eq_false (neqF (b := 0) z (by omega) (by omega))
    rw [if_neg z, if_neg n0]
    exact ⟨h, rfl, ⟨b, mk, q⟩, Fr.rf⟩
end CTell2

