/-! The component: a house, and its diary -/
def RepG (I : IA) (H : HA) (D : OD) : Prop := (∀ r, r < 10 → oa D 0 r = eO (hO H r)) ∧ (∀ g, g < 10 → oa D 1 g = eO (roomS I H g)) ∧ (∀ g, g < 10 → oa D 2 g = Int32.ofNat (hM H g)) ∧ (∀ g, g < 10 → oa D 3 g = Int32.ofNat (hS H g)) ∧ oi D 4 = Int32.ofNat (hsT H) ∧ oi D 5 = Int32.ofNat (hsP H) ∧ oi D 6 = Int32.ofNat (hsM H) ∧ oi D 7 = Int32.ofNat (hsN H)
/-- the house as the component has it -/
def RepH (I : IA) (H : HA) (D : OD) : Prop := RepG I H D ∧ oi D 8 = Int32.ofNat (occN (hO H) (iR I)) ∧ oi D 9 = Int32.ofNat (msk (hE H) 10)
def enN (x : Go) : Nat := (x.2.2.2.1 * 256 + (x.2.2.2.2 - x.2.2.2.1)) * 4096 + ((x.1 * 16 + pI x.2.1) * 16 + pI x.2.2.1)
/-- the diary as the component has it -/
def RepD (H : HA) (G : OD) : Prop := oi G 1 = Int32.ofNat (hL H).length ∧ oi G 2 = Int32.ofNat (hC H) ∧ ∀ (k : Nat) (x : Go), (hL H)[k]? = some x → om G 0 k = Int64.ofNat (enN x)
/-- the heap with a diary, if there is one -/
def pd (dia : Option Nat) (G : OD) (h : PH) : PH := match dia with
  | none => h
  | some d => pt sX0 d G h
theorem pd_len {dia : Option Nat} {G : OD} {h : PH} : (pd dia G h).length = h.length := by
  cases dia with
  | none => rfl
  | some d => exact pt_len _ _ _ _
theorem At.pd {S : Sp} {p : Nat} {D : OD} {dia : Option Nat} {G : OD} {h : PH} (hA : At S p D h) (hd : ∀ d, dia = some d → p + sz S ≤ d ∨ d + 2 ≤ p) : At S p D (pd dia G h) := by
  cases dia with
  | none => exact hA
  | some d => exact hA.out (hd d rfl)
theorem eO_p {a : Option Nat} : eO a - (-1) = Int32.ofNat (pI a) := by
  cases a with
  | none => decide
  | some r =>
    show Int32.ofNat r - (-1) = Int32.ofNat (r + 1)
    rw [i_eq, i_sub, i_on, i_on]
    have : (-1 : Int32).toInt = -1 := by decide
    rw [this]
    simp only [Int.bmod]
    omega
theorem pI_le {n : Nat} {a : Option Nat} (ha : ∀ r, a = some r → r < n) : pI a ≤ n := by
  cases a with
  | none => exact Nat.zero_le _
  | some r => exact ha r rfl
section CGo
variable {N : Nat} {h : PH} {I : IA} {H : HA}
theorem c_write {d : Nat} {G : OD} (hF : d + 2 ≤ h.length) (hR : RepD H G) (hI : IOk I) {g : Nat} {fr to : Option Nat} (hG : GoOk I H g fr to) (hl : (hL H).length < 1000) (hc : hC H ≤ 500000) : ∃ G', f_X0_write N d (Int32.ofNat g) (eO fr) (eO to) (Int32.ofNat (miD I g fr to)) (pt sX0 d G h) = some (pt sX0 d G' h) ∧ RepD (goS I g fr to H) G' := by
  obtain ⟨r1, r2, r3⟩ := hR
  have m1 := miD_le hI hG.2.1 hG.fr hG.to
  have p1 := pI_le hG.fr
  have p2 := pI_le hG.to
  have i1 := hI.1
  have i2 := hI.2.1
  have g1 := hG.2.1
  unfold f_X0_write f_X0_write_78
  have c : ((1000 : Int32) ≤ Int32.ofNat (hL H).length) = False := nleF (a := 1000) (by omega) (by omega) (by omega)
  have v1 : Int32.toInt64 (Int32.ofNat ((g * 16 + pI fr) * 16 + pI to)) = Int64.ofNat ((g * 16 + pI fr) * 16 + pI to) := i2l (by omega)
  have v2 : (Int32.toInt64 (Int32.ofNat (hC H)) * 256 + Int32.toInt64 (Int32.ofNat (miD I g fr to))) * 4096 + Int64.ofNat ((g * 16 + pI fr) * 16 + pI to) = Int64.ofNat (enN (g, fr, to, hC H, hC H + miD I g fr to)) := by
    rw [i2l (by omega), i2l (by omega)]
    have e1 : (256 : Int64) = Int64.ofNat 256 := rfl
    have e2 : (4096 : Int64) = Int64.ofNat 4096 := rfl
    have e3 : enN (g, fr, to, hC H, hC H + miD I g fr to) = (hC H * 256 + miD I g fr to) * 4096 + ((g * 16 + pI fr) * 16 + pI to) := by
      show (hC H * 256 + (hC H + miD I g fr to - hC H)) * 4096 + _ = _
      rw [Nat.add_sub_cancel_left]
    rw [e1, e2, l_mul, l_add, l_mul, l_add, e3]
  refine ⟨si (si (sm G 0 (vp_updL (om G 0) (hL H).length (Int64.ofNat (enN (g, fr, to, hC H, hC H + miD I g fr to))))) 1 (Int32.ofNat ((hL H).length + 1))) 2 (Int32.ofNat (hC H + miD I g fr to)), ?_, ?_, ?_, ?_⟩
  · simp (disch := first | (with_reducible assumption) | (simp only [oi_si, oi_sl, oi_sa, oi_sm, oi_sv, oi_sq, ol_si, ol_sl, ol_sa, ol_sm, ol_sv, ol_sq, oa_si, oa_sl, oa_sa, oa_sm, oa_sv, oa_sq, om_si, om_sl, om_sa, om_sm, om_sv, om_sq, ov_si, ov_sl, ov_sa, ov_sm, ov_sv, ov_sq, oq_si, oq_sl, oq_sa, oq_sm, oq_sv, oq_sq, Nat.reduceEqDiff, ↓reduceIte]; done) | omega | (exact ixn (by omega) (by omega)) | (exact ixl (by decide) (by decide)) | (simp only [pt_len, pl, z0, z1, z2, z3, z4, z5, z6, z7, z8, z9, z10, z11, z12]; omega)) only [↓gb_m, ↓gc_m, ↓gl_s, ↓gg_m, gb_s, gc_s, gg_t, gqm_0, gqm_1, pt_pt, sa_sa, sm_sm, si_si, qk0, qg0_0, qg0_1, qs0_1, qg0_2, qs0_2, qa0_0, qe0_0, ql0_0, oi_si, oi_sl, oi_sa, oi_sm, oi_sv, oi_sq, ol_si, ol_sl, ol_sa, ol_sm, ol_sv, ol_sq, oa_si, oa_sl, oa_sa, oa_sm, oa_sv, oa_sq, om_si, om_sl, om_sa, om_sm, om_sv, om_sq, ov_si, ov_sl, ov_sa, ov_sm, ov_sv, ov_sq, oq_si, oq_sl, oq_sa, oq_sm, oq_sv, oq_sq, Nat.reduceEqDiff, ↓reduceIte, n_add, n_addl, n_ladd, n_add1, n_mul, n_lmul, n_mull, n_sub, n_subl, n_subm, n_lt, n_le, n_eq, n_ltl, n_llt, n_lel, n_lle, n_eql, n_leq, n_m1, n_m1l, n_lt0, n_ge0, i_okc, i_okl, if_true, if_false, not_true, not_false, Nat.not_lt_zero, Nat.zero_le, r1, r2, c, eO_p, v1, v2]
  · simp only [oi_si, oi_sl, oi_sa, oi_sm, oi_sv, oi_sq, ol_si, ol_sl, ol_sa, ol_sm, ol_sv, ol_sq, oa_si, oa_sl, oa_sa, oa_sm, oa_sv, oa_sq, om_si, om_sl, om_sa, om_sm, om_sv, om_sq, ov_si, ov_sl, ov_sa, ov_sm, ov_sv, ov_sq, oq_si, oq_sl, oq_sa, oq_sm, oq_sv, oq_sq, Nat.reduceEqDiff, ↓reduceIte]
    rw [hL_len]
  · simp only [oi_si, oi_sl, oi_sa, oi_sm, oi_sv, oi_sq, ol_si, ol_sl, ol_sa, ol_sm, ol_sv, ol_sq, oa_si, oa_sl, oa_sa, oa_sm, oa_sv, oa_sq, om_si, om_sl, om_sa, om_sm, om_sv, om_sq, ov_si, ov_sl, ov_sa, ov_sm, ov_sv, ov_sq, oq_si, oq_sl, oq_sa, oq_sm, oq_sv, oq_sq, Nat.reduceEqDiff, ↓reduceIte]
    rfl
  · intro k x hx
    simp only [oi_si, oi_sl, oi_sa, oi_sm, oi_sv, oi_sq, ol_si, ol_sl, ol_sa, ol_sm, ol_sv, ol_sq, oa_si, oa_sl, oa_sa, oa_sm, oa_sv, oa_sq, om_si, om_sl, om_sa, om_sm, om_sv, om_sq, ov_si, ov_sl, ov_sa, ov_sm, ov_sv, ov_sq, oq_si, oq_sl, oq_sa, oq_sm, oq_sv, oq_sq, Nat.reduceEqDiff, ↓reduceIte]
    rw [hL_go] at hx
    rcases log_at hx with ⟨y1, y2⟩ | ⟨y1, y2⟩
    · rw [updL_ne (by omega)]
      exact r3 k x y2
    · rw [updL_eq y1, y2]
theorem room_go {g : Nat} {fr to : Option Nat} (hG : GoOk I H g fr to) : ∀ x, roomS I (goS I g fr to H) x = if x = g then to else roomS I H x := by
  obtain ⟨hH, hg, h1, h2, h3⟩ := hG
  have key : ∀ (H' : HA), HOk I H' → ∀ x (o : Option Nat), (∀ a, o = some a → hO H' a = some x) → (o = none → ¬ inH H' x) → roomS I H' x = o := by
    intro H' hk x o k1 k2
    cases o with
    | some a => exact (room_iff hk).mpr (k1 a rfl)
    | none =>
      cases hr : roomS I H' x with
      | none => rfl
      | some b => exact absurd ⟨b, (room_s hr).2⟩ (k2 rfl)
  intro x
  cases to with
  | some s =>
    obtain ⟨s1, s2⟩ := h3 s rfl
    obtain ⟨a1, a2⟩ := go_in hH (g := g) (fr := fr) (s := s) (fun r hr => (h1 r hr).2) h2 s1 s2 hg
    by_cases c : x = g
    · rw [if_pos c]
      subst c
      refine key _ a1 x (some s) (fun a ha => ?_) (fun z => by cases z)
      cases ha
      rw [hO_go]
      cases fr with
      | none => rw [oPut_ns, fu_eq rfl]
      | some r => rw [oPut_ss, fu_eq rfl]
    · rw [if_neg c]
      refine key _ a1 x _ (fun a ha => ?_) (fun z => ?_)
      · have e := (room_s ha).2
        have n1 : a ≠ s := fun z => by rw [z, s2] at e; cases e
        rw [hO_go]
        cases fr with
        | none => rw [oPut_ns, fu_ne n1]; exact e
        | some r =>
          have n2 : a ≠ r := fun z => by
            rw [z, (h1 r rfl).2] at e
            cases e
            exact c rfl
          rw [oPut_ss, fu_ne n1, fu_ne n2]
          exact e
      · rw [a2]
        rintro (y | y)
        · exact c y
        · exact room_n hH z y
  | none =>
    cases fr with
    | none =>
      have e : roomS I (goS I g none none H) x = roomS I H x := rfl
      rw [e]
      by_cases c : x = g
      · rw [if_pos c]
        subst c
        exact key H hH x none (fun a ha => by cases ha) (fun _ => h2 rfl)
      · rw [if_neg c]
    | some r =>
      obtain ⟨a1, a2⟩ := go_out hH (h1 r rfl).2
      by_cases c : x = g
      · rw [if_pos c]
        refine key _ a1 x none (fun a ha => by cases ha) (fun _ z => ?_)
        exact ((a2 x).mp z).1 c
      · rw [if_neg c]
        refine key _ a1 x _ (fun a ha => ?_) (fun z y => ?_)
        · have e := (room_s ha).2
          have n2 : a ≠ r := fun z => by
            rw [z, (h1 r rfl).2] at e
            cases e
            exact c rfl
          rw [hO_go, oPut_sn, fu_ne n2]
          exact e
        · exact room_n hH z ((a2 x).mp y).2
theorem go_room {g : Nat} {fr to : Option Nat} (hG : GoOk I H g fr to) : roomS I H g = fr := by
  obtain ⟨hH, hg, h1, h2, h3⟩ := hG
  cases fr with
  | some r => exact (room_iff hH).mpr (h1 r rfl).2
  | none =>
    cases hr : roomS I H g with
    | none => rfl
    | some b => exact absurd ⟨b, (room_s hr).2⟩ (h2 rfl)
def oPt (f : Nat → Int32) (g : Nat) (fr to : Option Nat) : Nat → Int32 := match to with
  | some s => upd (match fr with
    | some r => upd f r (-1)
    | none => f) s (Int32.ofNat g)
  | none => (match fr with
    | some r => upd f r (-1)
    | none => f)
theorem oPt_ns (f : Nat → Int32) (g s : Nat) : oPt f g none (some s) = upd f s (Int32.ofNat g) := rfl
theorem oPt_sn (f : Nat → Int32) (g r : Nat) : oPt f g (some r) none = upd f r (-1) := rfl
theorem oPt_ss (f : Nat → Int32) (g r s : Nat) : oPt f g (some r) (some s) = upd (upd f r (-1)) s (Int32.ofNat g) := rfl
/-- behind a going: the diary, if there is one -/
theorem c_go141 {p : Nat} {D G : OD} {dia : Option Nat} (hd : ∀ d, dia = some d → d + 2 ≤ h.length ∧ (d + 2 ≤ p ∨ p + 5 ≤ d) ∧ RepD H G ∧ (hL H).length < 1000 ∧ hC H ≤ 500000) (hI : IOk I) {g : Nat} {fr to : Option Nat} (hG : GoOk I H g fr to) : ∃ G', f_X1_go_141 N (Int32.ofNat g) (eO to) dia (eO fr) (Int32.ofNat (miD I g fr to)) (pt sX1 p D (pd dia G h)) = some (pt sX1 p D (pd dia G' h)) ∧ ∀ d, dia = some d → RepD (goS I g fr to H) G' := by
  unfold f_X1_go_141 f_X1_go_157
  cases dia with
  | none => exact ⟨G, rfl, fun d hd => by cases hd⟩
  | some d =>
    obtain ⟨d1, d2, d3, d4, d5⟩ := hd d rfl
    obtain ⟨G', w1, w2⟩ := c_write (N := N) (h := pt sX1 p D h) (by rw [pt_len]; exact d1) d3 hI hG d4 d5
    refine ⟨G', ?_, fun _ _ => w2⟩
    rw [gqm_1]
    show gg (gIs 0 d (pt sX1 p D (pt sX0 d G h))) (gb (f_X0_write N d (Int32.ofNat g) (eO fr) (eO to) (Int32.ofNat (miD I g fr to)) (pt sX1 p D (pt sX0 d G h))) fun zh2 => some zh2) = some (pt sX1 p D (pt sX0 d G' h))
    rw [pt_comm (S := sX1) (S' := sX0) (by simp only [z1, z0]; omega), qk0 (by rw [pt_len]; exact d1), gg_t, w1, gb_s, pt_comm (S := sX1) (S' := sX0) (by simp only [z1, z0]; omega)]
theorem c_go {p q : Nat} {D E G : OD} {dia : Option Nat} (hF : p + 5 ≤ h.length) (hE : At sX2 q E h) (hI : RepIC I E) (hpq : p + 5 ≤ q ∨ q + 7 ≤ p) (hdq : ∀ d, dia = some d → d + 2 ≤ q ∨ q + 7 ≤ d) (hd : ∀ d, dia = some d → d + 2 ≤ h.length ∧ (d + 2 ≤ p ∨ p + 5 ≤ d) ∧ RepD H G ∧ (hL H).length < 1000 ∧ hC H ≤ 500000) (hR : RepG I H D) {g : Nat} {fr to : Option Nat} (hG : GoOk I H g fr to) :
    ∃ D' G', f_X1_go N p q (Int32.ofNat g) (eO to) dia (pt sX1 p D (pd dia G h)) = some (pt sX1 p D' (pd dia G' h)) ∧ RepG I (goS I g fr to H) D' ∧ Keep [0, 1, 2, 3, 4, 5, 6, 7] D D' ∧ ∀ d, dia = some d → RepD (goS I g fr to H) G' := by
  have hgo := go_room hG
  have hro := room_go hG
  obtain ⟨r0, r1, r2, r3, r4, r5, r6, r7⟩ := hR
  have b1 := hI.1.1
  have b2 := hI.1.2.1
  have g1 := hG.2.1
  have hFd : p + 5 ≤ (pd dia G h).length := by rw [pd_len]; exact hF
  have hEd : ∀ D', At sX2 q E (pt sX1 p D' (pd dia G h)) := fun D' => (hE.pd (fun d hq => by simp only [z2]; have := hdq d hq; omega)).out (by simp only [z1, z2]; omega)
  have st := fun D' => c_steps (N := N) (hEd D') hI hG.fr hG.to
  have mi := fun D' => c_minutes (N := N) (hEd D') hI g1 hG.fr hG.to
  have is2 : ∀ D', gIs 2 q (pt sX1 p D' (pd dia G h)) = true := fun D' => (hEd D').is rfl
  have ba : ∀ D', gfI 2 3 q (pt sX1 p D' (pd dia G h)) = some (oi E 3) := fun D' => (hEd D').gI rfl rfl
  have bb := fun D' => c_bath (N := N) (h := pt sX1 p D' (pd dia G h)) hI g1
  have r1g := r1 g (by omega)
  rw [hgo] at r1g
  have r3g := r3 g (by omega)
  have r2g := r2 g (by omega)
  -- what the arrays say then
  have rep : ∀ (D' : OD), oa D' 0 = oPt (oa D 0) g fr to → oa D' 1 = upd (oa D 1) g (eO to) → oa D' 3 = upd (oa D 3) g (Int32.ofNat (hS H g + stD I fr to)) → oi D' 4 = Int32.ofNat (hsT H + stD I fr to) → oi D' 7 = Int32.ofNat (hsN H + miD I g fr to) → (bothIn fr to = true → oa D' 2 = upd (oa D 2) g (Int32.ofNat (hM H g + 1)) ∧ oi D' 6 = Int32.ofNat (hsM H + 1) ∧ oi D' 5 = Int32.ofNat (hsP H + iBa I g)) → (bothIn fr to = false → oa D' 2 = oa D 2 ∧ oi D' 6 = oi D 6 ∧ oi D' 5 = oi D 5) → RepG I (goS I g fr to H) D' := by
    intro D' k0 k1 k3 k4 k7 kt kf
    refine ⟨?_, ?_, ?_, ?_, k4, ?_, ?_, k7⟩
    · intro r hr
      rw [k0, hO_go]
      cases fr with
      | none =>
        cases to with
        | none => exact r0 r hr
        | some s =>
          rw [oPut_ns, oPt_ns]
          by_cases c : r = s
          · rw [upd_eq c, fu_eq c]
            rfl
          · rw [upd_ne c, fu_ne c]
            exact r0 r hr
      | some f =>
        cases to with
        | none =>
          rw [oPut_sn, oPt_sn]
          by_cases c : r = f
          · rw [upd_eq c, fu_eq c]
            rfl
          · rw [upd_ne c, fu_ne c]
            exact r0 r hr
        | some s =>
          rw [oPut_ss, oPt_ss]
          by_cases c : r = s
          · rw [upd_eq c, fu_eq c]
            rfl
          · rw [upd_ne c, fu_ne c]
            by_cases c : r = f
            · rw [upd_eq c, fu_eq c]
              rfl
            · rw [upd_ne c, fu_ne c]
              exact r0 r hr
    · intro x hx
      rw [k1, hro x]
      by_cases c : x = g
      · rw [upd_eq c, if_pos c]
      · rw [upd_ne c, if_neg c]
        exact r1 x hx
    · intro x hx
      rw [hM_go]
      cases hb : bothIn fr to with
      | true =>
        rw [(kt hb).1, if_pos rfl]
        by_cases c : x = g
        · rw [upd_eq c, fu_eq c]
        · rw [upd_ne c, fu_ne c]
          exact r2 x hx
      | false =>
        rw [(kf hb).1, if_neg (by decide)]
        exact r2 x hx
    · intro x hx
      rw [k3, hS_go]
      by_cases c : x = g
      · rw [upd_eq c, fu_eq c]
      · rw [upd_ne c, fu_ne c]
        exact r3 x hx
    · rw [hsP_go]
      cases hb : bothIn fr to with
      | true => rw [(kt hb).2.2, if_pos rfl]
      | false =>
        rw [(kf hb).2.2, if_neg (by decide)]
        exact r5
    · rw [hsM_go]
      cases hb : bothIn fr to with
      | true => rw [(kt hb).2.1, if_pos rfl]
      | false =>
        rw [(kf hb).2.1, if_neg (by decide)]
        exact r6
  have dg := fun D' => c_go141 (N := N) (D := D') hd hI.1 hG
  have m1 : ((-1 : Int32) = -1) = True := eq_true rfl
  unfold f_X1_go f_X1_go_41 f_X1_go_53
  cases fr with
  | none =>
    cases to with
    | none =>
      obtain ⟨G', y1, y2⟩ := dg (si (si (sa (sa D 1 (upd (oa D 1) g (-1))) 3 (upd (oa D 3) g (Int32.ofNat (hS H g + stD I none none)))) 4 (Int32.ofNat (hsT H + stD I none none))) 7 (Int32.ofNat (hsN H + miD I g none none)))
      rw [eO_n] at *
      refine ⟨si (si (sa (sa D 1 (upd (oa D 1) g (-1))) 3 (upd (oa D 3) g (Int32.ofNat (hS H g + stD I none none)))) 4 (Int32.ofNat (hsT H + stD I none none))) 7 (Int32.ofNat (hsN H + miD I g none none)), G', ?_, rep _ ?_ ?_ ?_ ?_ ?_ (fun z => by cases z) (fun _ => ⟨?_, ?_, ?_⟩), ?_, y2⟩
      rotate_left
      · rfl
      · rfl
      · rfl
      · rfl
      · rfl
      · rfl
      · rfl
      · rfl
      · (repeat (first | exact Keep.rf | assumption | refine k_si2 ?_ (by decide) | refine k_sa2 ?_ (by decide) | refine k_sm2 ?_ (by decide) | refine k_sl2 ?_ (by decide) | refine k_sv2 ?_ (by decide)))
      · simp (disch := first | (with_reducible assumption) | (simp only [oi_si, oi_sl, oi_sa, oi_sm, oi_sv, oi_sq, ol_si, ol_sl, ol_sa, ol_sm, ol_sv, ol_sq, oa_si, oa_sl, oa_sa, oa_sm, oa_sv, oa_sq, om_si, om_sl, om_sa, om_sm, om_sv, om_sq, ov_si, ov_sl, ov_sa, ov_sm, ov_sv, ov_sq, oq_si, oq_sl, oq_sa, oq_sm, oq_sv, oq_sq, Nat.reduceEqDiff, ↓reduceIte]; done) | omega | (exact ixn (by omega) (by omega)) | (exact ixl (by decide) (by decide)) | (simp only [pt_len, pl, z0, z1, z2, z3, z4, z5, z6, z7, z8, z9, z10, z11, z12]; omega)) only [↓gb_m, ↓gc_m, ↓gl_s, ↓gg_m, gb_s, gc_s, gg_t, gqm_0, gqm_1, pt_pt, sa_sa, sm_sm, si_si, qk1, qg1_0, qg1_1, qg1_2, qg1_3, qg1_4, qs1_4, qg1_5, qs1_5, qg1_6, qs1_6, qg1_7, qs1_7, qg1_8, qs1_8, qg1_9, qs1_9, qa1_0, qe1_0, ql1_0, qa1_1, qe1_1, ql1_1, qa1_2, qe1_2, ql1_2, qa1_3, qe1_3, ql1_3, oi_si, oi_sl, oi_sa, oi_sm, oi_sv, oi_sq, ol_si, ol_sl, ol_sa, ol_sm, ol_sv, ol_sq, oa_si, oa_sl, oa_sa, oa_sm, oa_sv, oa_sq, om_si, om_sl, om_sa, om_sm, om_sv, om_sq, ov_si, ov_sl, ov_sa, ov_sm, ov_sv, ov_sq, oq_si, oq_sl, oq_sa, oq_sm, oq_sv, oq_sq, Nat.reduceEqDiff, ↓reduceIte, n_add, n_addl, n_ladd, n_add1, n_mul, n_lmul, n_mull, n_sub, n_subl, n_subm, n_lt, n_le, n_eq, n_ltl, n_llt, n_lel, n_lle, n_eql, n_leq, n_m1, n_m1l, n_lt0, n_ge0, i_okc, i_okl, if_true, if_false, not_true, not_false, Nat.not_lt_zero, Nat.zero_le, r1g, is2, st, mi, m1, gnar_0, r3g, r4, r7, y1]
    | some s =>
      have s1 := hG.to s rfl
      obtain ⟨G', y1, y2⟩ := dg (si (si (sa (sa (sa D 0 (upd (oa D 0) s (Int32.ofNat g))) 1 (upd (oa D 1) g (Int32.ofNat s))) 3 (upd (oa D 3) g (Int32.ofNat (hS H g + stD I none (some s))))) 4 (Int32.ofNat (hsT H + stD I none (some s)))) 7 (Int32.ofNat (hsN H + miD I g none (some s))))
      rw [eO_n, eO_s] at *
      refine ⟨si (si (sa (sa (sa D 0 (upd (oa D 0) s (Int32.ofNat g))) 1 (upd (oa D 1) g (Int32.ofNat s))) 3 (upd (oa D 3) g (Int32.ofNat (hS H g + stD I none (some s))))) 4 (Int32.ofNat (hsT H + stD I none (some s)))) 7 (Int32.ofNat (hsN H + miD I g none (some s))), G', ?_, rep _ ?_ ?_ ?_ ?_ ?_ (fun z => by cases z) (fun _ => ⟨?_, ?_, ?_⟩), ?_, y2⟩
      rotate_left
      · rfl
      · rfl
      · rfl
      · rfl
      · rfl
      · rfl
      · rfl
      · rfl
      · (repeat (first | exact Keep.rf | assumption | refine k_si2 ?_ (by decide) | refine k_sa2 ?_ (by decide) | refine k_sm2 ?_ (by decide) | refine k_sl2 ?_ (by decide) | refine k_sv2 ?_ (by decide)))
      · simp (disch := first | (with_reducible assumption) | (simp only [oi_si, oi_sl, oi_sa, oi_sm, oi_sv, oi_sq, ol_si, ol_sl, ol_sa, ol_sm, ol_sv, ol_sq, oa_si, oa_sl, oa_sa, oa_sm, oa_sv, oa_sq, om_si, om_sl, om_sa, om_sm, om_sv, om_sq, ov_si, ov_sl, ov_sa, ov_sm, ov_sv, ov_sq, oq_si, oq_sl, oq_sa, oq_sm, oq_sv, oq_sq, Nat.reduceEqDiff, ↓reduceIte]; done) | omega | (exact ixn (by omega) (by omega)) | (exact ixl (by decide) (by decide)) | (simp only [pt_len, pl, z0, z1, z2, z3, z4, z5, z6, z7, z8, z9, z10, z11, z12]; omega)) only [↓gb_m, ↓gc_m, ↓gl_s, ↓gg_m, gb_s, gc_s, gg_t, gqm_0, gqm_1, pt_pt, sa_sa, sm_sm, si_si, qk1, qg1_0, qg1_1, qg1_2, qg1_3, qg1_4, qs1_4, qg1_5, qs1_5, qg1_6, qs1_6, qg1_7, qs1_7, qg1_8, qs1_8, qg1_9, qs1_9, qa1_0, qe1_0, ql1_0, qa1_1, qe1_1, ql1_1, qa1_2, qe1_2, ql1_2, qa1_3, qe1_3, ql1_3, oi_si, oi_sl, oi_sa, oi_sm, oi_sv, oi_sq, ol_si, ol_sl, ol_sa, ol_sm, ol_sv, ol_sq, oa_si, oa_sl, oa_sa, oa_sm, oa_sv, oa_sq, om_si, om_sl, om_sa, om_sm, om_sv, om_sq, ov_si, ov_sl, ov_sa, ov_sm, ov_sv, ov_sq, oq_si, oq_sl, oq_sa, oq_sm, oq_sv, oq_sq, Nat.reduceEqDiff, ↓reduceIte, n_add, n_addl, n_ladd, n_add1, n_mul, n_lmul, n_mull, n_sub, n_subl, n_subm, n_lt, n_le, n_eq, n_ltl, n_llt, n_lel, n_lle, n_eql, n_leq, n_m1, n_m1l, n_lt0, n_ge0, i_okc, i_okl, if_true, if_false, not_true, not_false, Nat.not_lt_zero, Nat.zero_le, r1g, is2, st, mi, m1, gnar_0, r3g, r4, r7, y1]
  | some r =>
    have f1 := hG.fr r rfl
    cases to with
    | none =>
      obtain ⟨G', y1, y2⟩ := dg (si (si (sa (sa (sa D 0 (upd (oa D 0) r (-1))) 1 (upd (oa D 1) g (-1))) 3 (upd (oa D 3) g (Int32.ofNat (hS H g + stD I (some r) none)))) 4 (Int32.ofNat (hsT H + stD I (some r) none))) 7 (Int32.ofNat (hsN H + miD I g (some r) none)))
      rw [eO_n, eO_s] at *
      refine ⟨si (si (sa (sa (sa D 0 (upd (oa D 0) r (-1))) 1 (upd (oa D 1) g (-1))) 3 (upd (oa D 3) g (Int32.ofNat (hS H g + stD I (some r) none)))) 4 (Int32.ofNat (hsT H + stD I (some r) none))) 7 (Int32.ofNat (hsN H + miD I g (some r) none)), G', ?_, rep _ ?_ ?_ ?_ ?_ ?_ (fun z => by cases z) (fun _ => ⟨?_, ?_, ?_⟩), ?_, y2⟩
      rotate_left
      · rfl
      · rfl
      · rfl
      · rfl
      · rfl
      · rfl
      · rfl
      · rfl
      · (repeat (first | exact Keep.rf | assumption | refine k_si2 ?_ (by decide) | refine k_sa2 ?_ (by decide) | refine k_sm2 ?_ (by decide) | refine k_sl2 ?_ (by decide) | refine k_sv2 ?_ (by decide)))
      · simp (disch := first | (with_reducible assumption) | (simp only [oi_si, oi_sl, oi_sa, oi_sm, oi_sv, oi_sq, ol_si, ol_sl, ol_sa, ol_sm, ol_sv, ol_sq, oa_si, oa_sl, oa_sa, oa_sm, oa_sv, oa_sq, om_si, om_sl, om_sa, om_sm, om_sv, om_sq, ov_si, ov_sl, ov_sa, ov_sm, ov_sv, ov_sq, oq_si, oq_sl, oq_sa, oq_sm, oq_sv, oq_sq, Nat.reduceEqDiff, ↓reduceIte]; done) | omega | (exact ixn (by omega) (by omega)) | (exact ixl (by decide) (by decide)) | (simp only [pt_len, pl, z0, z1, z2, z3, z4, z5, z6, z7, z8, z9, z10, z11, z12]; omega)) only [↓gb_m, ↓gc_m, ↓gl_s, ↓gg_m, gb_s, gc_s, gg_t, gqm_0, gqm_1, pt_pt, sa_sa, sm_sm, si_si, qk1, qg1_0, qg1_1, qg1_2, qg1_3, qg1_4, qs1_4, qg1_5, qs1_5, qg1_6, qs1_6, qg1_7, qs1_7, qg1_8, qs1_8, qg1_9, qs1_9, qa1_0, qe1_0, ql1_0, qa1_1, qe1_1, ql1_1, qa1_2, qe1_2, ql1_2, qa1_3, qe1_3, ql1_3, oi_si, oi_sl, oi_sa, oi_sm, oi_sv, oi_sq, ol_si, ol_sl, ol_sa, ol_sm, ol_sv, ol_sq, oa_si, oa_sl, oa_sa, oa_sm, oa_sv, oa_sq, om_si, om_sl, om_sa, om_sm, om_sv, om_sq, ov_si, ov_sl, ov_sa, ov_sm, ov_sv, ov_sq, oq_si, oq_sl, oq_sa, oq_sm, oq_sv, oq_sq, Nat.reduceEqDiff, ↓reduceIte, n_add, n_addl, n_ladd, n_add1, n_mul, n_lmul, n_mull, n_sub, n_subl, n_subm, n_lt, n_le, n_eq, n_ltl, n_llt, n_lel, n_lle, n_eql, n_leq, n_m1, n_m1l, n_lt0, n_ge0, i_okc, i_okl, if_true, if_false, not_true, not_false, Nat.not_lt_zero, Nat.zero_le, r1g, is2, st, mi, m1, gnar_0, r3g, r4, r7, y1]
    | some s =>
      have s1 := hG.to s rfl
      obtain ⟨G', y1, y2⟩ := dg (si (si (sa (si (si (sa (sa (sa D 0 (upd (upd (oa D 0) r (-1)) s (Int32.ofNat g))) 1 (upd (oa D 1) g (Int32.ofNat s))) 3 (upd (oa D 3) g (Int32.ofNat (hS H g + stD I (some r) (some s))))) 4 (Int32.ofNat (hsT H + stD I (some r) (some s)))) 7 (Int32.ofNat (hsN H + miD I g (some r) (some s)))) 2 (upd (oa D 2) g (Int32.ofNat (hM H g + 1)))) 6 (Int32.ofNat (hsM H + 1))) 5 (Int32.ofNat (hsP H + iBa I g)))
      rw [eO_s, eO_s] at *
      refine ⟨si (si (sa (si (si (sa (sa (sa D 0 (upd (upd (oa D 0) r (-1)) s (Int32.ofNat g))) 1 (upd (oa D 1) g (Int32.ofNat s))) 3 (upd (oa D 3) g (Int32.ofNat (hS H g + stD I (some r) (some s))))) 4 (Int32.ofNat (hsT H + stD I (some r) (some s)))) 7 (Int32.ofNat (hsN H + miD I g (some r) (some s)))) 2 (upd (oa D 2) g (Int32.ofNat (hM H g + 1)))) 6 (Int32.ofNat (hsM H + 1))) 5 (Int32.ofNat (hsP H + iBa I g)), G', ?_, rep _ ?_ ?_ ?_ ?_ ?_ (fun _ => ⟨?_, ?_, ?_⟩) (fun z => by cases z), ?_, y2⟩
      rotate_left
      · rfl
      · rfl
      · rfl
      · rfl
      · rfl
      · rfl
      · rfl
      · rfl
      · (repeat (first | exact Keep.rf | assumption | refine k_si2 ?_ (by decide) | refine k_sa2 ?_ (by decide) | refine k_sm2 ?_ (by decide) | refine k_sl2 ?_ (by decide) | refine k_sv2 ?_ (by decide)))
      · simp (disch := first | (with_reducible assumption) | (simp only [oi_si, oi_sl, oi_sa, oi_sm, oi_sv, oi_sq, ol_si, ol_sl, ol_sa, ol_sm, ol_sv, ol_sq, oa_si, oa_sl, oa_sa, oa_sm, oa_sv, oa_sq, om_si, om_sl, om_sa, om_sm, om_sv, om_sq, ov_si, ov_sl, ov_sa, ov_sm, ov_sv, ov_sq, oq_si, oq_sl, oq_sa, oq_sm, oq_sv, oq_sq, Nat.reduceEqDiff, ↓reduceIte]; done) | omega | (exact ixn (by omega) (by omega)) | (exact ixl (by decide) (by decide)) | (simp only [pt_len, pl, z0, z1, z2, z3, z4, z5, z6, z7, z8, z9, z10, z11, z12]; omega)) only [↓gb_m, ↓gc_m, ↓gl_s, ↓gg_m, gb_s, gc_s, gg_t, gqm_0, gqm_1, pt_pt, sa_sa, sm_sm, si_si, qk1, qg1_0, qg1_1, qg1_2, qg1_3, qg1_4, qs1_4, qg1_5, qs1_5, qg1_6, qs1_6, qg1_7, qs1_7, qg1_8, qs1_8, qg1_9, qs1_9, qa1_0, qe1_0, ql1_0, qa1_1, qe1_1, ql1_1, qa1_2, qe1_2, ql1_2, qa1_3, qe1_3, ql1_3, oi_si, oi_sl, oi_sa, oi_sm, oi_sv, oi_sq, ol_si, ol_sl, ol_sa, ol_sm, ol_sv, ol_sq, oa_si, oa_sl, oa_sa, oa_sm, oa_sv, oa_sq, om_si, om_sl, om_sa, om_sm, om_sv, om_sq, ov_si, ov_sl, ov_sa, ov_sm, ov_sv, ov_sq, oq_si, oq_sl, oq_sa, oq_sm, oq_sv, oq_sq, Nat.reduceEqDiff, ↓reduceIte, n_add, n_addl, n_ladd, n_add1, n_mul, n_lmul, n_mull, n_sub, n_subl, n_subm, n_lt, n_le, n_eq, n_ltl, n_llt, n_lel, n_lle, n_eql, n_leq, n_m1, n_m1l, n_lt0, n_ge0, i_okc, i_okl, if_true, if_false, not_true, not_false, Nat.not_lt_zero, Nat.zero_le, r1g, is2, st, mi, m1, gnar_0, r3g, r2g, r4, r5, r6, r7, ba, bb, y1]
end CGo

