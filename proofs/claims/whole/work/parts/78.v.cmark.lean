/-! The component: mark -/
section CMark
variable {N : Nat} {A : AA}
theorem arQ_at {h : PH} {t n p i : Nat} {f : Nat → Option Nat} (a : h[p]? = some (.inl (t, n, .inr (.inr (.inr (.inr f)))))) (hi : i < n) (hn : n < 1000) : arQ t p (Int32.ofNat i) h = some (f i) := by
  unfold arQ
  rw [a]
  show (if t = t ∧ ¬ (Int32.ofNat i < 0 ∨ n ≤ (Int32.ofNat i).toNatClampNeg) then some (f (Int32.ofNat i).toNatClampNeg) else none) = _
  rw [if_pos ⟨rfl, ixn hi (by omega)⟩, i_okc (by omega)]
theorem arR_at {h : PH} {t n p i x : Nat} {f : Nat → Option Nat} (a : h[p]? = some (.inl (t, n, .inr (.inr (.inr (.inr f)))))) (hi : i < n) (hn : n < 1000) (hx : f i = some x) : arR t p (Int32.ofNat i) h = some x := by
  unfold arR
  rw [arQ_at a hi hn, hx]
theorem RC.laid {b : Bool} {mk : Nat → Option Nat} {h : PH} (r : RC A b mk h) : gfI 11 11 0 h = some (Int32.ofNat (msk (fun m => (aM A m).isSome) 4)) := by
  obtain ⟨D, a, _, c⟩ := r.1
  rw [a.gI (k := 11) rfl rfl, c]
/-- marks have changed -/
theorem RC.mks {A' : AA} {b : Bool} {mk mk' : Nat → Option Nat} {h h' : PH} {P : Nat → Prop} (r : RC A b mk h) (eI : aI A' = aI A) (eT : aT A' = aT A) (eS : aS A' = aS A) (f : Fr P h h') (hP : ∀ x, P x → x = 0 ∨ x = 54 ∨ 106 ≤ x) (g11 : c11 A' b h') (gM : cMk A' mk' h') : RC A' b mk' h' := by
  obtain ⟨a1, a2, a3, a4, a5, a6, a7, a8, a9, a10, a11, a12, a13⟩ := r
  have cl := cu_lt b
  have cl2 := cu_lt (!b)
  have no : ∀ x, 1 ≤ x → x < 54 → ¬ P x := fun x x1 x2 z => by have := hP x z; omega
  have no2 : ∀ x, 55 ≤ x → x < 106 → ¬ P x := fun x x1 x2 z => by have := hP x z; omega
  unfold RC
  rw [eI, eT, eS]
  refine ⟨g11, a2.fr f (fun y y1 y2 => no y (by omega) (by omega)), a3.fr f (no 3 (by omega) (by omega)), a4.fr f (fun y y1 y2 => no y (by omega) (by omega)), a5.fr f (fun y y1 y2 => no2 y (by omega) (by omega)), a6.fr f (fun y y1 y2 => no2 y (by omega) (by omega)), a7.fr f (fun y y1 y2 => no y (by omega) (by omega)), gM, a9.fr f (fun y y1 y2 => no2 y (by omega) (by omega)), a10.fr f (fun y y1 y2 => no2 y (by omega) (by omega)), a11.fr f (no2 _ (by omega) (by omega)), a12.fr f (no2 _ (by omega) (by omega)), ?_⟩
  have := f.len (n := 105) (by omega) (no2 105 (by omega) (by omega))
  omega
/-- a mark is laid where there is a state for it -/
theorem c_mark47 (hN : 2000 ≤ N) (hA' : AOk A) {b : Bool} {mk : Nat → Option Nat} {h : PH} (q : RC A b mk h) {m x : Nat} (hm : m < 4) (hx : mk m = some x) : ∃ h', f_X11_mark_47 N 0 (Int32.ofNat m) h = some (1, h') ∧ RC (aI A, aT A, aS A, fu (aM A) m (some (aS A))) b mk h' ∧ Fr (fun x => ¬ Md x) h h' := by
  have q' := q
  obtain ⟨a1, a2, a3, a4, a5, a6, a7, a8, a9, a10, a11, a12, a13⟩ := q
  obtain ⟨c1, c2, c3, c4⟩ := a8
  obtain ⟨x1, I2, S2, x2⟩ := c2 m hm x hx
  obtain ⟨h1, k1, k2, k3⟩ := c_sCopy (N := N) hN a7 x2 hA'.1 hA'.2.1 (by omega)
  obtain ⟨D, d1, d2, d3⟩ := a1.fr k2 (by omega)
  have cl := cu_lt b
  have cl2 := cu_lt (!b)
  have f2 : Fr (fun y => y = 0) h1 (pt sX11 0 (si D 11 (Int32.ofNat (msk (fun m' => (fu (aM A) m (some (aS A)) m').isSome) 4))) h1) := Fr.of (fun y y1 y2 => by simp only [z11] at y2; omega)
  have fr : Fr (fun y => y = 0 ∨ (x ≤ y ∧ y < x + 47)) h (pt sX11 0 (si D 11 (Int32.ofNat (msk (fun m' => (fu (aM A) m (some (aS A)) m').isSome) 4))) h1) := (k2.up (fun y hy => Or.inr hy)).tr (f2.up (fun y hy => Or.inl hy))
  have em : Int32.ofNat (msk (fun m => (aM A m).isSome) 4) ||| (1 : Int32) <<< (Int32.ofNat m &&& 31) = Int32.ofNat (msk (fun m' => (fu (aM A) m (some (aS A)) m').isSome) 4) := by
    rw [shl1 m (by omega), msk_or _ (by omega) (by omega)]
    congr 1
    refine msk_ext (fun k _ => ?_)
    rw [fu_at, fu_at]
    by_cases w : k = m
    · rw [if_pos w, if_pos w]; rfl
    · rw [if_neg w, if_neg w]
  have g11 : c11 (aI A, aT A, aS A, fu (aM A) m (some (aS A))) b (pt sX11 0 (si D 11 (Int32.ofNat (msk (fun m' => (fu (aM A) m (some (aS A)) m').isSome) 4))) h1) := ⟨_, d1.p2, d2, by rw [oi_si, if_pos rfl]; rfl⟩
  refine ⟨_, ?_, q'.mks rfl rfl rfl fr (fun y hy => by omega) g11 ⟨?_, ?_, ?_, c4⟩, fr.nmd (fun y hy => by omega)⟩
  · unfold f_X11_mark_47
    have e11 : gfI 11 11 0 h1 = some (Int32.ofNat (msk (fun m => (aM A m).isSome) 4)) := by rw [d1.gI (k := 11) rfl rfl, d3]
    rw [q'.e11.2.2.2.2.2.1, gb_s, arR_at c1 hm (by omega) hx, gb_s, q'.stt, gb_s, x2.1.e.1, gg_t, k1, gb_s, e11, gb_s, em, d1.sI (k := 11) rfl rfl, gb_s, gzb1, gg_t]
  · rw [fr 54 (by omega)]
    exact c1
  · intro m' hm' y hy
    by_cases w : m' = m
    · subst w
      rw [hx] at hy
      cases hy
      exact ⟨x1, _, _, k3.fr f2 (fun y y1 y2 => by omega)⟩
    · obtain ⟨y1, I3, S3, y2⟩ := c2 m' hm' y hy
      have := c4 m' m hm' hm w y x hy hx
      exact ⟨y1, I3, S3, y2.fr fr (fun z z1 z2 => by omega)⟩
  · intro m' hm' S3 hS3
    have hS3 : fu (aM A) m (some (aS A)) m' = some S3 := hS3
    rw [fu_at] at hS3
    by_cases w : m' = m
    · rw [if_pos w] at hS3
      cases hS3
      subst w
      exact ⟨x, hx, k3.fr f2 (fun y y1 y2 => by omega)⟩
    · rw [if_neg w] at hS3
      obtain ⟨y, y1, y2⟩ := c3 m' hm' S3 hS3
      have y3 := (c2 m' hm' y y1).1
      have := c4 m' m hm' hm w y x y1 hx
      exact ⟨y, y1, y2.fr fr (fun z z1 z2 => by omega)⟩
/-- a state is made for a mark -/
theorem c_markN (hN : 2000 ≤ N) {b : Bool} {mk : Nat → Option Nat} {h : PH} (q : RC A b mk h) {m : Nat} (hm : m < 4) (hx : mk m = none) : ∃ h', f_X9_init N h.length 4 (h ++ [.inr (9, n0X9)]) = some h' ∧ ∃ h2, asQ 5 54 9 (Int32.ofNat m) h.length h' = some h2 ∧ RC A b (fu mk m (some h.length)) h2 ∧ Fr (fun x => ¬ Md x) h h2 := by
  obtain ⟨h', k1, k2, k3, k4⟩ := c_init9 (N := N) (h := h) hN
  have q1 := q.exx k3
  have q1' := q1
  have ql := q.2.2.2.2.2.2.2.2.2.2.2.2
  have qm := q.2.2.2.2.2.2.2.1
  obtain ⟨a1, a2, a3, a4, a5, a6, a7, a8, a9, a10, a11, a12, a13⟩ := q1
  obtain ⟨c1, c2, c3, c4⟩ := a8
  have cl := cu_lt b
  have cl2 := cu_lt (!b)
  have sq := asQ_at (i := m) (x := h.length) (ci := 9) c1 hm (by omega) k4.1.e.1
  have fr : Fr (fun y => y = 54) h' (h'.set 54 (.inl (5, 4, .inr (.inr (.inr (.inr (va_up mk m (some h.length)))))))) := fun y hy => List.getElem?_set_ne (fun z => hy z.symm)
  have eu : va_up mk m (some h.length) = fu mk m (some h.length) := rfl
  refine ⟨h', k1, _, sq, ?_, (k3.nmd ql).tr (fr.nmd (fun y hy => by omega))⟩
  refine q1'.mks rfl rfl rfl fr (fun y hy => by omega) (a1.fr fr (by omega)) ⟨?_, ?_, ?_, ?_⟩
  · rw [List.getElem?_set_self (by omega), eu]
  · intro m' hm' y hy
    rw [fu_at] at hy
    by_cases w : m' = m
    · rw [if_pos w] at hy
      cases hy
      exact ⟨ql, _, _, k4.fr fr (fun z z1 z2 => by omega)⟩
    · rw [if_neg w] at hy
      obtain ⟨y1, I3, S3, y2⟩ := c2 m' hm' y hy
      exact ⟨y1, I3, S3, y2.fr fr (fun z z1 z2 => by omega)⟩
  · intro m' hm' S3 hS3
    obtain ⟨y, y1, y2⟩ := c3 m' hm' S3 hS3
    have y3 := (c2 m' hm' y y1).1
    refine ⟨y, ?_, y2.fr fr (fun z z1 z2 => by omega)⟩
    rw [fu_at, if_neg]
    · exact y1
    · intro w
      rw [w, hx] at y1
      cases y1
  · -- the new one lies behind all others
    have bel : ∀ m', m' < 4 → ∀ y, mk m' = some y → y + 47 ≤ h.length := by
      intro m' hm' y hy
      obtain ⟨_, I3, S3, y2⟩ := qm.2.1 m' hm' y hy
      obtain ⟨D, d1, _⟩ := y2.2.2.2.2.2.2.2 4 (by omega)
      have := d1.1
      simp only [z1] at this
      omega
    intro m1 m2 h1 h2 hne y1 y2 e1 e2
    rw [fu_at] at e1 e2
    by_cases w1 : m1 = m
    · rw [if_pos w1] at e1
      cases e1
      rw [if_neg (by omega)] at e2
      have := bel m2 h2 y2 e2
      omega
    · rw [if_neg w1] at e1
      by_cases w2 : m2 = m
      · rw [if_pos w2] at e2
        cases e2
        have := bel m1 h1 y1 e1
        omega
      · rw [if_neg w2] at e2
        exact c4 m1 m2 h1 h2 hne y1 y2 e1 e2
theorem c_mark (hN : 2000 ≤ N) (hA' : AOk A) (m : Int32) (bk : Bool) : CAns A (markS A m bk) (f_X11_mark N 0 m (eB bk)) (eB (markOk A m bk)) := by
  intro h q
  obtain ⟨b, mk, q⟩ := q
  have bad : markOk A m bk = false → ∃ h', (some (0, h) : Option (Int32 × PH)) = some (eB (markOk A m bk), h') ∧ RepC (markS A m bk) h' ∧ Fr (fun x => ¬ Md x) h h' := by
    intro z
    unfold markS
    rw [z]
    exact ⟨h, rfl, ⟨b, mk, q⟩, Fr.rf⟩
  unfold f_X11_mark f_X11_mark_9
  rw [gzb0, gg_t]
  cases z1 : isN m 4 with
  | false =>
    have ok : markOk A m bk = false := by unfold markOk; rw [z1]; rfl
    rcases isN_f z1 with w | w
    · rw [if_pos w]; exact bad ok
    · by_cases w2 : m < 0
      · rw [if_pos w2]; exact bad ok
      · have w3 : ¬ m < 4 := by
          have w : (4 : Int32) ≤ m := w
          rw [i_le] at w
          rw [i_lt]
          omega
        rw [if_neg w2, if_neg w3]
        exact bad ok
  | true =>
    obtain ⟨x, hx, rfl⟩ := isN_t (by omega) z1
    have n0 : ¬ Int32.ofNat x < 0 := by rw [n_lt0 (by omega)]; exact id
    have n4 : Int32.ofNat x < 4 := of_eq_true (nltT (b := 4) hx (by omega) (by omega))
    have c1 := q.2.2.2.2.2.2.2.1.1
    have c3 := q.2.2.2.2.2.2.2.1.2.2.1
    rw [if_neg n0, if_pos n4]
    cases bk with
    | false =>
      have t0 : eB false = 0 := rfl
      have ok : markOk A (Int32.ofNat x) false = true := by unfold markOk; rw [z1]; rfl
      have eA : markS A (Int32.ofNat x) false = (aI A, aT A, aS A, fu (aM A) x (some (aS A))) := by
        unfold markS
        rw [if_pos ok, i_okc (by omega)]
        rfl
      rw [if_pos t0, ok, eA, q.e11.2.2.2.2.2.1, gb_s, arQ_at c1 hx (by omega), gb_s]
      cases hk : mk x with
      | some y =>
        rw [gqm_1]
        obtain ⟨h', k1, k2, k3⟩ := c_mark47 (N := N) hN hA' q hx hk
        exact ⟨h', k1, ⟨b, mk, k2⟩, k3⟩
      | none =>
        obtain ⟨h', k1, h2, k2, k3, k4⟩ := c_markN (N := N) hN q hx hk
        obtain ⟨h3, j1, j2, j3⟩ := c_mark47 (N := N) hN hA' k3 hx (x := h.length) (by rw [fu_at, if_pos rfl])
        have m4 : gfR 11 2 0 (h ++ [.inr (9, n0X9)]) = some 4 := (q.exx (Ex.app h [.inr (9, n0X9)])).mach
        refine ⟨h3, ?_, ⟨b, _, j2⟩, k4.tr j3⟩
        rw [gqm_0, gb_s]
        unfold nwO
        rw [gc_s, m4, gb_s, k1, gb_s, k2, gb_s, j1]
        rfl
    | true =>
      have t0 : ¬ eB true = 0 := by decide
      rw [if_neg t0, q.is11, gg_t]
      unfold f_X11_goBackTo f_X11_goBackTo_20
      rw [q.laid, gb_s, c_bit (by omega), gc_s, decide_eq_true hx, Bool.true_and, gzb0, gg_t]
      cases hs : aM A x with
      | none =>
        have ok : markOk A (Int32.ofNat x) true = false := by
          unfold markOk
          rw [i_okc (by omega), hs, z1]
          rfl
        have e0 : eB (none : Option SA).isSome = 0 := rfl
        rw [if_pos e0, gc_s, gzb0, gg_t]
        exact bad ok
      | some S =>
        have ok : markOk A (Int32.ofNat x) true = true := by
          unfold markOk
          rw [i_okc (by omega), hs, z1]
          rfl
        have eA : markS A (Int32.ofNat x) true = (aI A, aT A, S, aM A) := by
          unfold markS
          rw [if_pos ok, if_pos rfl, i_okc (by omega), hs]
          rfl
        obtain ⟨y, y1, y2⟩ := c3 x hx S hs
        have y3 := (q.2.2.2.2.2.2.2.1.2.1 x hx y y1).1
        obtain ⟨h1, k1, k2, k3⟩ := c_sCopy (N := N) hN y2 q.2.2.2.2.2.2.1 hA'.1 (hA'.2.2.2.2 x S hs) (by omega)
        have e0 : ¬ eB (some S).isSome = 0 := eBt _ rfl
        rw [if_neg e0, ok, eA, q.e11.2.2.2.2.2.1, gb_s, arQ_at c1 hx (by omega), gb_s, y1, gqm_1, q.stt, gb_s, gb_s, arR_at c1 hx (by omega) y1, gb_s, q.e9.1, gg_t, k1, gb_s, gzb1, gg_t, gc_s, gzb1, gg_t]
        exact ⟨h1, rfl, ⟨b, mk, q.st7 (k2.up (fun z hz => by omega)) k3⟩, k2.nmd (fun z hz => by omega)⟩
end CMark

