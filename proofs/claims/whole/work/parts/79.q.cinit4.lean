/-! The component: as it begins, whole -/
section CInit4
variable {N : Nat}
theorem gf11a {k r : Nat} {fs : List Value} {L M : PH} (hk : fs[k]? = some (.ref r)) : gfR 11 k 0 ((.inr (11, fs) :: L) ++ M) = some r := gf11 (L := L ++ M) hk
theorem x3_st {β : Type} {fs : List Value} {L : PH} {F : PH → Option β} (h0 : fs[0]? = some (.ref 1)) (h1 : 1 < fs.length) : (gc (nwO 3 n0X3 (.inr (11, fs) :: L)) fun zr6 zh5 => gb (gfR 11 0 0 zh5) fun zt7 => gb (f_X3_init N zr6 zt7 zh5) fun zh8 => gb (pfV 11 1 0 (.ref zr6) zh8) F) = F (.inr (11, fs.set 1 (.ref (L.length + 1))) :: (L ++ [.inr (3, [.ref 1, .null, .int 0])])) := by
  unfold nwO f_X3_init
  have p3 : pfV 3 0 ((.inr (11, fs) :: L) : PH).length (.ref 1) ((.inr (11, fs) :: L) ++ [.inr (3, n0X3)]) = some ((.inr (11, fs) :: L) ++ [.inr (3, n0X3.set 0 (.ref 1))]) := pfV_a0 (h := .inr (11, fs) :: L) (L := []) (by decide)
  rw [gc_s, gf11a h0, gb_s, p3, gb_s, gb_s, List.cons_append, pf11 h1, gb_s]
  rfl
theorem x9_st {β : Type} (hN : 2000 ≤ N) {fs : List Value} {L : PH} (h2 : fs[2]? = some (.ref 4)) (h3 : 3 < fs.length) (hL : L.length = 6) : ∃ L' : PH, (∀ F : PH → Option β, (gc (nwO 9 n0X9 (.inr (11, fs) :: L)) fun zr15 zh14 => gb (gfR 11 2 0 zh14) fun zt16 => gb (f_X9_init N zr15 zt16 zh14) fun zh17 => gb (pfV 11 3 0 (.ref zr15) zh17) F) = F (.inr (11, fs.set 3 (.ref 7)) :: L')) ∧ L'.length = 53 ∧ (∀ a, a < 6 → L'[a]? = L[a]?) ∧ RSt I0A S0A 7 (.inr (11, fs.set 3 (.ref 7)) :: L') := by
  obtain ⟨h', a1, a2, a3, a4⟩ := c_init9 (N := N) (h := .inr (11, fs) :: L) hN
  have ln : ((.inr (11, fs) :: L) : PH).length = 7 := by rw [List.length_cons, hL]
  rw [ln] at a1 a2 a4
  have e0 : h'[0]? = some (.inr (11, fs)) := a3 0 _ rfl
  obtain ⟨c, L', rfl⟩ : ∃ c L', h' = c :: L' := by
    cases h' with
    | nil => cases e0
    | cons c L' => exact ⟨c, L', rfl⟩
  have ec : c = .inr (11, fs) := Option.some.inj e0
  subst ec
  refine ⟨L', fun F => ?_, ?_, ?_, ?_⟩
  · unfold nwO
    rw [gc_s, gf11a h2, gb_s, ln, a1, gb_s, pf11 h3, gb_s]
  · rw [List.length_cons] at a2
    omega
  · intro a ha
    have : L[a]? = some L[a] := List.getElem?_eq_getElem (by omega)
    rw [this]
    exact a3 (a + 1) _ this
  · refine a4.fr (P := fun x => x = 0) ?_ (fun x _ _ => by omega)
    intro a ha
    cases a with
    | zero => exact absurd rfl ha
    | succ a => rfl
theorem c_init11 (hN : 2000 ≤ N) : ∃ h', f_X11_init N 0 [.inr (11, n0X11)] = some h' ∧ h'.length = 80 ∧ ∀ h'', 106 ≤ h''.length → Fr (fun x => 80 ≤ x) h' h'' → RepC A0A h'' := by
  have l10 := blk_len sX10 1 D00
  have l7 := blk_len sX7 4 D00
  simp only [z10] at l10
  simp only [z7] at l7
  obtain ⟨L', b1, b2, b3, b4⟩ := x9_st (N := N) (β := PH) hN (fs := [.ref 1, .ref 3, .ref 4, .null, .null, .null, .null, .null, .null, .null, .null, .int 0]) (L := blk sX10 1 D00 ++ ([.inr (3, [.ref 1, .null, .int 0])] ++ blk sX7 4 D00)) rfl (by decide) (by simp only [List.length_append, l10, l7, List.length_singleton])
  have st : f_X11_init N 0 [.inr (11, n0X11)] = some (.inr (11, [.ref 1, .ref 3, .ref 4, .ref 7, .ref 54, .ref 55, .ref 59, .ref 64, .ref 65, .ref 66, .ref 73, .int 0]) :: (L' ++ ([.inl (5, 4, .inr (.inr (.inr (.inr (fun _ => none)))))] ++ (blk sX5 55 D00 ++ (blk sX1 59 D01 ++ ([.inl (0, 7, .inl (fun _ => 0))] ++ ([.inl (0, 1024, .inl (fun _ => 0))] ++ (blk sX2 66 D00 ++ blk sX2 73 D00)))))))) := by
    unfold f_X11_init n0X11
    rw [ob11 (f := f_X10_init) (fun h0 => c_init10) (by decide), x3_st rfl (by decide), ob11 (f := f_X7_init) (fun h0 => c_init7) (by decide)]
    simp only [List.nil_append, List.append_assoc, List.length_append, blk_len, List.length_singleton, List.length_nil, z10, z7, List.set_cons_zero, List.set_cons_succ, Nat.zero_add, Nat.reduceAdd]
    rw [b1, aq11 (by simp), ob11 (f := f_X5_init) (fun h0 => c_init5) (by simp), ob11 (f := f_X1_init) (fun h0 => c_init1 hN) (by simp), al11 (by simp), al11 (by simp), ob11 (f := f_X2_init) (fun h0 => c_init2) (by simp), ob11 (f := f_X2_init) (fun h0 => c_init2) (by simp)]
    simp only [List.append_assoc, List.length_append, blk_len, List.length_singleton, b2, z5, z1, z2, List.set_cons_zero, List.set_cons_succ, Nat.reduceAdd]
  refine ⟨_, st, ?_, ?_⟩
  · simp only [List.length_append, List.length_cons, blk_len, List.length_nil, b2, z5, z1, z2]
  · intro h'' hl fr
    have cut : ∀ (X Y : PH) (S : Sp) (D : OD) (n : Nat) (H : PH), H = X ++ (blk S n D ++ Y) → X.length = n → At S n D H := by
      intro X Y S D n H e hn
      rw [e, ← hn]
      exact At_blk
    have frB : Fr (fun x => x = 0 ∨ 7 ≤ x) (.inr (11, [.ref 1, .ref 3, .ref 4, .null, .null, .null, .null, .null, .null, .null, .null, .int 0]) :: (blk sX10 1 D00 ++ ([.inr (3, [.ref 1, .null, .int 0])] ++ blk sX7 4 D00))) (.inr (11, [.ref 1, .ref 3, .ref 4, .ref 7, .ref 54, .ref 55, .ref 59, .ref 64, .ref 65, .ref 66, .ref 73, .int 0]) :: (L' ++ ([.inl (5, 4, .inr (.inr (.inr (.inr (fun _ => none)))))] ++ (blk sX5 55 D00 ++ (blk sX1 59 D01 ++ ([.inl (0, 7, .inl (fun _ => 0))] ++ ([.inl (0, 1024, .inl (fun _ => 0))] ++ (blk sX2 66 D00 ++ blk sX2 73 D00)))))))) := by
      intro a ha
      cases a with
      | zero => exact absurd (Or.inl rfl) ha
      | succ a =>
        show (L' ++ _)[a]? = (blk sX10 1 D00 ++ ([.inr (3, [.ref 1, .null, .int 0])] ++ blk sX7 4 D00))[a]?
        rw [List.getElem?_append_left (by omega), b3 a (by omega)]
    have frC : Fr (fun x => x = 0 ∨ 54 ≤ x) (.inr (11, [.ref 1, .ref 3, .ref 4, .ref 7, .null, .null, .null, .null, .null, .null, .null, .int 0]) :: L') (.inr (11, [.ref 1, .ref 3, .ref 4, .ref 7, .ref 54, .ref 55, .ref 59, .ref 64, .ref 65, .ref 66, .ref 73, .int 0]) :: (L' ++ ([.inl (5, 4, .inr (.inr (.inr (.inr (fun _ => none)))))] ++ (blk sX5 55 D00 ++ (blk sX1 59 D01 ++ ([.inl (0, 7, .inl (fun _ => 0))] ++ ([.inl (0, 1024, .inl (fun _ => 0))] ++ (blk sX2 66 D00 ++ blk sX2 73 D00)))))))) := by
      intro a ha
      cases a with
      | zero => exact absurd (Or.inl rfl) ha
      | succ a =>
        show (L' ++ _)[a]? = L'[a]?
        rw [List.getElem?_append_left (by omega)]
    have rs : RSt I0A S0A 7 h'' := (RSt.fr b4 frC (fun x _ _ => by omega)).fr fr (fun x _ _ => by omega)
    have a10 : At sX10 1 D00 h'' := ((cut [.inr (11, [.ref 1, .ref 3, .ref 4, .null, .null, .null, .null, .null, .null, .null, .null, .int 0])] ([.inr (3, [.ref 1, .null, .int 0])] ++ blk sX7 4 D00) sX10 D00 1 _ rfl rfl).fr frB (fun x x1 x2 => by simp only [z10] at x2; omega)).fr fr (fun x x1 x2 => by simp only [z10] at x2; omega)
    have a3 : At sX3 3 (fun _ => 0, fun _ => 0, fun _ _ => 0, fun _ _ => 0, fun k => [Value.ref 1, .null].getD k .null, fun _ _ => none) h'' := ((cut (.inr (11, [.ref 1, .ref 3, .ref 4, .null, .null, .null, .null, .null, .null, .null, .null, .int 0]) :: blk sX10 1 D00) (blk sX7 4 D00) _ _ _ _ rfl (by rw [List.length_cons, l10])).fr frB (fun x x1 x2 => by simp only [z3] at x2; omega)).fr fr (fun x x1 x2 => by simp only [z3] at x2; omega)
    have a7 : At sX7 4 D00 h'' := ((cut (.inr (11, [.ref 1, .ref 3, .ref 4, .null, .null, .null, .null, .null, .null, .null, .null, .int 0]) :: (blk sX10 1 D00 ++ [.inr (3, [.ref 1, .null, .int 0])])) [] _ _ _ _ (by simp only [List.append_nil, List.append_assoc, List.cons_append]) (by simp only [List.length_append, List.length_cons, l10, List.length_nil])).fr frB (fun x x1 x2 => by simp only [z7] at x2; omega)).fr fr (fun x x1 x2 => by simp only [z7] at x2; omega)
    clear frB frC b4 b3 b1 st
    generalize hfs : (.inr (11, [.ref 1, .ref 3, .ref 4, .ref 7, .ref 54, .ref 55, .ref 59, .ref 64, .ref 65, .ref 66, .ref 73, .int 0]) : va_E) = c0 at fr
    have a11 : At sX11 0 (fun _ => 0, fun _ => 0, fun _ _ => 0, fun _ _ => 0, fun k => [Value.ref 1, .ref 3, .ref 4, .ref 7, .ref 54, .ref 55, .ref 59, .ref 64, .ref 65, .ref 66, .ref 73].getD k .null, fun _ _ => none) h'' := (cut [] (L' ++ ([.inl (5, 4, .inr (.inr (.inr (.inr (fun _ => none)))))] ++ (blk sX5 55 D00 ++ (blk sX1 59 D01 ++ ([.inl (0, 7, .inl (fun _ => 0))] ++ ([.inl (0, 1024, .inl (fun _ => 0))] ++ (blk sX2 66 D00 ++ blk sX2 73 D00))))))) sX11 _ 0 _ (by rw [← hfs]; rfl) rfl).fr fr (fun x x1 x2 => by simp only [z11] at x2; omega)
    have a5 : At sX5 55 D00 h'' := (cut (c0 :: (L' ++ [.inl (5, 4, .inr (.inr (.inr (.inr (fun _ => none)))))])) (blk sX1 59 D01 ++ ([.inl (0, 7, .inl (fun _ => 0))] ++ ([.inl (0, 1024, .inl (fun _ => 0))] ++ (blk sX2 66 D00 ++ blk sX2 73 D00)))) _ _ _ _ (by simp only [List.append_assoc, List.cons_append]) (by simp only [List.length_append, List.length_cons, b2, List.length_nil])).fr fr (fun x x1 x2 => by simp only [z5] at x2; omega)
    have a1 : At sX1 59 D01 h'' := (cut (c0 :: (L' ++ ([.inl (5, 4, .inr (.inr (.inr (.inr (fun _ => none)))))] ++ blk sX5 55 D00))) ([.inl (0, 7, .inl (fun _ => 0))] ++ ([.inl (0, 1024, .inl (fun _ => 0))] ++ (blk sX2 66 D00 ++ blk sX2 73 D00))) _ _ _ _ (by simp only [List.append_assoc, List.cons_append]) (by simp only [List.length_append, List.length_cons, b2, List.length_nil, blk_len, z5])).fr fr (fun x x1 x2 => by simp only [z1] at x2; omega)
    have a2 : At sX2 66 D00 h'' := (cut (c0 :: (L' ++ ([.inl (5, 4, .inr (.inr (.inr (.inr (fun _ => none)))))] ++ (blk sX5 55 D00 ++ (blk sX1 59 D01 ++ ([.inl (0, 7, .inl (fun _ => 0))] ++ [.inl (0, 1024, .inl (fun _ => 0))])))))) (blk sX2 73 D00) _ _ _ _ (by simp only [List.append_assoc, List.cons_append]) (by simp only [List.length_append, List.length_cons, b2, List.length_nil, blk_len, z5, z1])).fr fr (fun x x1 x2 => by simp only [z2] at x2; omega)
    have a2' : At sX2 73 D00 h'' := (cut (c0 :: (L' ++ ([.inl (5, 4, .inr (.inr (.inr (.inr (fun _ => none)))))] ++ (blk sX5 55 D00 ++ (blk sX1 59 D01 ++ ([.inl (0, 7, .inl (fun _ => 0))] ++ ([.inl (0, 1024, .inl (fun _ => 0))] ++ blk sX2 66 D00))))))) [] _ _ _ _ (by simp only [List.append_assoc, List.cons_append, List.append_nil]) (by simp only [List.length_append, List.length_cons, b2, List.length_nil, blk_len, z5, z1, z2])).fr fr (fun x x1 x2 => by simp only [z2] at x2; omega)
    have one : ∀ (X Y : PH) (c : va_E) (n : Nat) (H : PH), H = X ++ ([c] ++ Y) → X.length = n → H[n]? = some c := by
      intro X Y c n H e hn
      rw [e, ← hn, List.getElem?_append_right (Nat.le_refl _), Nat.sub_self]
      rfl
    have m54 : h''[54]? = some (.inl (5, 4, .inr (.inr (.inr (.inr (fun _ => none)))))) := by
      rw [fr 54 (by omega)]
      exact one (c0 :: L') (blk sX5 55 D00 ++ (blk sX1 59 D01 ++ ([.inl (0, 7, .inl (fun _ => 0))] ++ ([.inl (0, 1024, .inl (fun _ => 0))] ++ (blk sX2 66 D00 ++ blk sX2 73 D00))))) _ _ _ (by simp only [List.append_assoc, List.cons_append]) (by simp only [List.length_cons, b2])
    have m64 : h''[64]? = some (.inl (0, 7, .inl (fun _ => 0))) := by
      rw [fr 64 (by omega)]
      exact one (c0 :: (L' ++ ([.inl (5, 4, .inr (.inr (.inr (.inr (fun _ => none)))))] ++ (blk sX5 55 D00 ++ blk sX1 59 D01)))) ([.inl (0, 1024, .inl (fun _ => 0))] ++ (blk sX2 66 D00 ++ blk sX2 73 D00)) _ _ _ (by simp only [List.append_assoc, List.cons_append]) (by simp only [List.length_append, List.length_cons, b2, List.length_nil, blk_len, z5, z1])
    have m65 : h''[65]? = some (.inl (0, 1024, .inl (fun _ => 0))) := by
      rw [fr 65 (by omega)]
      exact one (c0 :: (L' ++ ([.inl (5, 4, .inr (.inr (.inr (.inr (fun _ => none)))))] ++ (blk sX5 55 D00 ++ (blk sX1 59 D01 ++ [.inl (0, 7, .inl (fun _ => 0))]))))) (blk sX2 66 D00 ++ blk sX2 73 D00) _ _ _ (by simp only [List.append_assoc, List.cons_append]) (by simp only [List.length_append, List.length_cons, b2, List.length_nil, blk_len, z5, z1])
    have ic : RepIC I0A D00 := ⟨I0_ok, rfl, rfl, rfl, rfl, rfl, fun r hr => absurd hr (Nat.not_lt_zero _), fun g hg => absurd hg (Nat.not_lt_zero _), fun _ => 0, fun k _ => ⟨rfl, Nat.zero_le _⟩, fun k hk => absurd hk (Nat.not_lt_zero _)⟩
    refine ⟨true, fun _ => none, ⟨_, a11, ⟨rfl, rfl, rfl, rfl, rfl, rfl, rfl, rfl, rfl, rfl, rfl⟩, ?_⟩, ⟨D00, a10, rfl, fun k c hk => (by cases hk)⟩, ⟨_, a3, rfl⟩, ⟨D00, a7⟩, ⟨D00, a2, ic, rfl⟩, ⟨D00, a2', rfl⟩, rs, ⟨m54, fun m hm q hq => (by cases hq), fun m hm S hS => (by cases hS), fun m m' _ _ _ q q' hq => (by cases hq)⟩, ⟨D00, a5⟩, ⟨D01, a1⟩, ⟨_, m64⟩, ⟨_, m65⟩, hl⟩
    show (0 : Int32) = Int32.ofNat (msk (fun _ => false) 4)
    decide
end CInit4

