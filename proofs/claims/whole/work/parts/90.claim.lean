set_option maxHeartbeats 4000000 in
set_option maxRecDepth 100000 in
theorem whole_start {p : Program} {e : Env} {s : State} {m : MethodId} {below : List Frame} {meth : Method} {c : Code} (l : Launch) (hst : l.stackTraces = false) {b L : Nat} {xs : Nat → Int32} (hL : L ≤ 3584) (C0 : lw_At p s m meth c b L xs) : W p l e room_1 s m #[Value.ref b] below meth c s.heap [] 0 0 (lw_Z below #[Value.ref b] s) (entryFrame m ([Value.ref b] : List Value).toArray 7) := by
  obtain ⟨hx, hb, hr, hml, hown, hts, hX, hbl, hlocks, hgv⟩ := C0
  have htg : ∀ w ∈ gT, w.before #[Value.ref b] s = true := fun w hw => hts w (gT_tbl w hw)
  have hfl := flat_of_before _ hgv
  obtain ⟨c0, iS0, hK0⟩ := u_known (C := RX0) (T := TX0) (N := 3) (n := 3) htg inX0 (htg _ mN_X0)
  obtain ⟨c1, iS1, hK1⟩ := u_known (C := RX1) (T := TX1) (N := 10) (n := 10) htg inX1 (htg _ mN_X1)
  obtain ⟨c2, iS2, hK2⟩ := u_known (C := RX2) (T := TX2) (N := 12) (n := 12) htg inX2 (htg _ mN_X2)
  obtain ⟨c3, iS3, hK3⟩ := u_known (C := RX3) (T := TX3) (N := 3) (n := 3) htg inX3 (htg _ mN_X3)
  obtain ⟨c4, iS4, hK4⟩ := u_known (C := RX4) (T := TX4) (N := 4) (n := 4) htg inX4 (htg _ mN_X4)
  obtain ⟨c5, iS5, hK5⟩ := u_known (C := RX5) (T := TX5) (N := 5) (n := 5) htg inX5 (htg _ mN_X5)
  obtain ⟨c6, iS6, hK6⟩ := u_known (C := RX6) (T := TX6) (N := 2) (n := 2) htg inX6 (htg _ mN_X6)
  obtain ⟨c7, iS7, hK7⟩ := u_known (C := RX7) (T := TX7) (N := 3) (n := 3) htg inX7 (htg _ mN_X7)
  obtain ⟨c8, iS8, hK8⟩ := u_known (C := RX8) (T := TX8) (N := 6) (n := 6) htg inX8 (htg _ mN_X8)
  obtain ⟨c9, iS9, hK9⟩ := u_known (C := RX9) (T := TX9) (N := 11) (n := 11) htg inX9 (htg _ mN_X9)
  obtain ⟨c10, iS10, hK10⟩ := u_known (C := RX10) (T := TX10) (N := 7) (n := 7) htg inX10 (htg _ mN_X10)
  obtain ⟨c11, iS11, hK11⟩ := u_known (C := RX11) (T := TX11) (N := 12) (n := 12) htg inX11 (htg _ mN_X11)
  obtain ⟨c12, iS12, hK12⟩ := u_known (C := RX12) (T := TX12) (N := 48) (n := 48) htg inX12 (htg _ mN_X12)
  obtain ⟨c13, iS13, hK13⟩ := u_known (C := "java/util/NoSuchElementException") (T := TX0) (N := 0) (n := 6) htg (fun w hw => by simp [u_ws] at hw) (htg _ mN_java_util_NoSuchElementException)
  obtain ⟨a0, ka0, ca0, fa0, ga0, ha0⟩ := Cond.arrayClass_spec (htg _ ma_int)
  obtain ⟨a1, ka1, ca1, fa1, ga1, ha1⟩ := Cond.arrayClass_spec (htg _ ma_long)
  obtain ⟨a2, ka2, ca2, fa2, ga2, ha2⟩ := Cond.arrayClass_spec (htg _ ma_byte)
  obtain ⟨a3, ka3, ca3, fa3, ga3, ha3⟩ := Cond.arrayClass_spec (htg _ ma_boolean)
  obtain ⟨ca4, a4, ka4, ea4, -, ga4, ha4, fa4⟩ := Cond.arrayOver_spec (hts _ ls_oh)
  obtain ⟨ca5, a5, ka5, ea5, -, ga5, ha5, fa5⟩ := Cond.arrayOver_spec (hts _ ls_os)
  have hA : ∀ a : Nat, a < s.heap.size → ¬ (fun q : Nat => s.heap.size ≤ q) a := fun a h => Nat.not_le.mpr h
  obtain ⟨adK, adV, hvS, hvK⟩ := vk_Sof (N := 16) (tm := gTm) (len := gLen) (byt := gByt) (A := fun q : Nat => s.heap.size ≤ q) gLen_lt (fun i hi => hfl _ (st_ex i hi)) (fun i hi => hfl _ (st_co i hi)) (fun i hi => hfl _ (st_ar i hi)) (fun i hi => hfl _ (st_le i hi)) (fun i hi j hj => hfl _ (st_el i hi j hj)) (fun i j hi hj hij => (st_ne i hi j hj hij).imp (hfl _) (hfl _)) hA
  obtain ⟨E, hE⟩ : ∃ E : gE, E = ((fun k => [c0, c1, c2, c3, c4, c5, c6, c7, c8, c9, c10, c11, c12, c13].getD k c0, fun k => [iS0, iS1, iS2, iS3, iS4, iS5, iS6, iS7, iS8, iS9, iS10, iS11, iS12, iS13].getD k iS0), fun k => [a0, a1, a2, a3, a4, a5].getD k a0, s.heap.size, adK, adV) := ⟨_, rfl⟩
  have hBe : gB E = s.heap.size := by rw [hE]
  have hKa : va_K E.1 vwCl (gtys E) s := by
    subst hE
    refine ⟨fun k q hq => ?_, fun k q hq => ?_⟩
    · match k, hq with
      | 0, hq => cases hq; exact hK0
      | 1, hq => cases hq; exact hK1
      | 2, hq => cases hq; exact hK2
      | 3, hq => cases hq; exact hK3
      | 4, hq => cases hq; exact hK4
      | 5, hq => cases hq; exact hK5
      | 6, hq => cases hq; exact hK6
      | 7, hq => cases hq; exact hK7
      | 8, hq => cases hq; exact hK8
      | 9, hq => cases hq; exact hK9
      | 10, hq => cases hq; exact hK10
      | 11, hq => cases hq; exact hK11
      | 12, hq => cases hq; exact hK12
      | 13, hq => cases hq; exact hK13
      | k + 14, hq => simp [vwCl] at hq
    · match k, hq with
      | 0, hq => cases hq; exact ⟨fun n z => ⟨fun k h => (by cases h), ka0, ga0, ca0, ha0⟩, fa0⟩
      | 1, hq => cases hq; exact ⟨fun n z => ⟨fun k h => (by cases h), ka1, ga1, ca1, ha1⟩, fa1⟩
      | 2, hq => cases hq; exact ⟨fun n z => ⟨fun k h => (by cases h), ka2, ga2, ca2, ha2⟩, fa2⟩
      | 3, hq => cases hq; exact ⟨fun n z => ⟨fun k h => (by cases h), ka3, ga3, ca3, ha3⟩, fa3⟩
      | 4, hq => cases hq; exact ⟨fun n z => ⟨fun k h => (by cases h), ka4, ga4, ca4, ha4⟩, ka4, ca4, ga4, ha4, ea4, fa4⟩
      | 5, hq => cases hq; exact ⟨fun n z => ⟨fun k h => (by cases h), ka5, ga5, ca5, ha5⟩, ka5, ca5, ga5, ha5, ea5, fa5⟩
      | k + 6, hq => simp [gtys] at hq
  have hKn : ∀ w ∈ gN, va_Nw w s := by
    intro w hw
    simp only [gN, List.mem_cons, List.not_mem_nil, or_false] at hw
    rcases hw with rfl | rfl | rfl | rfl | rfl | rfl | rfl | rfl | rfl | rfl | rfl | rfl
    · exact va_Nw.of rfl (hts _ ls_n0)
    · exact va_Nw.of rfl (hts _ ls_n1)
    · exact va_Nw.of rfl (hts _ ls_n2)
    · exact va_Nw.of rfl (hts _ ls_n3)
    · exact va_Nw.of rfl (hts _ ls_n4)
    · exact va_Nw.of rfl (hts _ ls_n5)
    · exact va_Nw.of rfl (hts _ ls_n6)
    · exact va_Nw.of rfl (hts _ ls_n7)
    · exact va_Nw.of rfl (hts _ ls_n8)
    · exact va_Nw.of rfl (hts _ ls_n9)
    · exact va_Nw.of rfl (hts _ ls_n10)
    · exact va_Nw.of rfl (hts _ ls_n11)
  have hKs : gStr E s := by
    subst hE
    refine ⟨fun q hq => ?_, hvS, va_Zof (hts _ ls_cs) (htg _ mI_java_lang_String) (va_eqt (hfl _ st_cs)) hA, va_Zqof (hts _ ls_si) (htg _ mI_jdk_internal_util_Preconditions) (hfl _ st_si) hA, vx_Zqof (hts _ ls_us) (htg _ mI_java_lang_Throwable) (hfl _ st_us) hA, vx_Zqof (hts _ ls_ss) (htg _ mI_java_lang_Throwable) (hfl _ st_ss) hA, va_Nw.of rfl (hts _ ls_ca), va_Nw.of rfl (hts _ ls_d0), va_Nw.of rfl (hts _ ls_d1), va_Nw.of rfl (hts _ ls_d2)⟩
    simp only [gSt, List.mem_cons, List.not_mem_nil, or_false] at hq
    rcases hq with rfl | rfl | rfl | rfl | rfl | rfl | rfl | rfl | rfl | rfl | rfl | rfl | rfl | rfl | rfl | rfl
    · exact vk_R.of (hts _ ls_t0) (hvK 0 (by decide))
    · exact vk_R.of (hts _ ls_t1) (hvK 1 (by decide))
    · exact vk_R.of (hts _ ls_t2) (hvK 2 (by decide))
    · exact vk_R.of (hts _ ls_t3) (hvK 3 (by decide))
    · exact vk_R.of (hts _ ls_t4) (hvK 4 (by decide))
    · exact vk_R.of (hts _ ls_t5) (hvK 5 (by decide))
    · exact vk_R.of (hts _ ls_t6) (hvK 6 (by decide))
    · exact vk_R.of (hts _ ls_t7) (hvK 7 (by decide))
    · exact vk_R.of (hts _ ls_t8) (hvK 8 (by decide))
    · exact vk_R.of (hts _ ls_t9) (hvK 9 (by decide))
    · exact vk_R.of (hts _ ls_t10) (hvK 10 (by decide))
    · exact vk_R.of (hts _ ls_t11) (hvK 11 (by decide))
    · exact vk_R.of (hts _ ls_t12) (hvK 12 (by decide))
    · exact vk_R.of (hts _ ls_t13) (hvK 13 (by decide))
    · exact vk_R.of (hts _ ls_t14) (hvK 14 (by decide))
    · exact vk_R.of (hts _ ls_t15) (hvK 15 (by decide))
  have hK : gK E s := ⟨hKa, hKn, ⟨va_AO.of (hts _ ls_oh), va_AO.of (hts _ ls_os)⟩, hKs⟩
  have hw : gw E s [] s.heap [] := ⟨⟨by rw [hBe]; rfl, fun k q h => by simp [ghW] at h⟩, va_S.rf⟩
  obtain ⟨N, h9, hf⟩ := plain_main L hL xs
  exact law_walk hst E N L xs hf ⟨⟨hx, hb, hml, hown, htg⟩, hK⟩ hr hlocks hX hbl hBe hw
set_option maxHeartbeats 4000000 in
theorem lw_walk (l : Launch) (hst : l.stackTraces = false) (b : Addr) (xs : List Int32) : MetFree l x (headSpec (Jvm.Cond.code x code maxLocals ret :: tables_1) room_1) (lw_P b xs) (fun _ _ _ _ _ => True) lw_Q := by
  refine MetFree.of_bodyS (code := code) (maxLocals := maxLocals) (ret := ret) (by decide) ?_ ?_
  · intro args s m h hn
    obtain ⟨meth, c, h1, h2, h3, h4, h5, h6, -, -⟩ := Cond.code_spec hn (atoms_spec (ws := Jvm.Cond.code x code maxLocals ret :: tables_1) h _ List.mem_cons_self)
    exact ⟨meth, c, h1, h2, h3, h4, h5, h6⟩
  · intro p e s m args below meth c s₁ B hml0 hP _
    obtain ⟨rfl, hx, hbd, hgv⟩ := hP
    obtain ⟨scr, harrAt, hlist, hof, hsmall⟩ := hx
    obtain ⟨hcb, hkn, -, -⟩ := State.arrayAt?_spec harrAt
    have hown : s.vm.findClass R_law = some m.cls := findClass_of_methodNamed B.named
    have hts0 : ∀ c ∈ (Jvm.Cond.code x code maxLocals ret :: tables_1), c.before #[Value.ref b] s = true := atoms_spec (ws := Jvm.Cond.code x code maxLocals ret :: tables_1) B.pre
    have hts : ∀ w ∈ lw_tbl, w.before #[Value.ref b] s = true := k2_hts_sels lw_privs (fun w hw => hts0 w (List.mem_cons_of_mem _ hw)) lw_privs_ok
    have hml : c.maxLocals = 7 := B.maxLocals_eq (hts0 _ List.mem_cons_self)
    have X₀ : Stand p l e room_1 s m #[Value.ref b] below meth c s₁ [] 0 0 := Stand.of_body B
    have hh0 : s₁.heap = s.heap := by rw [B.state]; rfl
    have hsz : scr.slots.size = xs.length := by rw [← Array.length_toList, hlist, List.length_map]
    have hval : ∀ j : Nat, j < xs.length → scr.slots[j]? = some (.int (xs.getD j 0)) := fun j hj => by
      rw [← Array.getElem?_toList, hlist]
      simp [hj]
    have hbl : b < s.heap.size := (Array.getElem?_eq_some_iff.mp hcb).1
    have hX : va_X b xs.length (fun j => xs.getD j 0) s s.heap := ⟨scr, hcb, hof, hkn, hsz, hval⟩
    have K : W p l e room_1 s m #[Value.ref b] below meth c s₁.heap [] 0 0 (lw_Z below #[Value.ref b] s) (entryFrame m ([Value.ref b] : List Value).toArray 7) := by
      rw [hh0]
      exact whole_start l hst hbd ⟨B.exec, B.bytes, B.returns, hml, hown, hts, hX, hbl, B.notSynchronized, hgv⟩
    obtain ⟨t, a1, o, b1, b2, b3⟩ := K s₁ rfl X₀
    exact ⟨t, o, a1, b1, b2, b3⟩
theorem lw_pre_spec {args : Array Value} {s : State} (h : (Jvm.Cond.and given_1 narrow_1).before args s = true) (hr : rest_1_c.before args s = true) : ∃ (b : Addr) (xs : List Int32), lw_P b xs args s := by
  have hs := flat_of_before _ h
  have hq := flat_of_before _ hr
  have hc : (Cond.count 1).before args s = true := hs _ (by decide +kernel)
  have harr : (Cond.arrayOf (.arg 0) .int).before args s = true := hs _ (by decide +kernel)
  have hle : (Cond.le (.length (.arg 0)) (.int 3584)).before args s = true := hs _ (by decide +kernel)
  have hlen : (Cond.isInt (.length (.arg 0))).before args s = true := hq _ (by decide +kernel)
  have hall : (Cond.all (.arg 0) (.isInt (.elem (.arg 0) (.index 0)))).before args s = true := hq _ (by decide +kernel)
  obtain ⟨b, xs, hb, hx⟩ := State.ints_of_pre rfl harr hlen hall
  have hsm : xs.length < 2 ^ 31 := hx.choose_spec.2.2.2
  have hev : (Term.length (.arg 0)).eval args s none [] s = some (.int xs.length.toInt32) := hx.length_eval hb
  have hv := Cond.le_ints hev (show (Term.int 3584).eval args s none [] s = some (.int 3584) from rfl)
  have hd : xs.length.toInt32 ≤ 3584 := by
    simpa [Cond.before, Cond.holds, hv] using hle
  have hN : xs.length ≤ 3584 := (Int32.ofNat_le_ofNat hsm (by decide)).mp (show Int32.ofNat xs.length ≤ Int32.ofNat 3584 from hd)
  exact ⟨b, xs, Cond.one_arg hc (show args[0]? = some (.ref b) from hb), hx, hN, h⟩
theorem lw_comes (l : Launch) (hst : l.stackTraces = false) : Comes l x (Jvm.Cond.code x code maxLocals ret :: tables_1) room_1 (fun tb e args s => Calls_1 tb e args s ∧ rest_1 tb e args s ∧ Pre_1 tb e args s)
    (fun _ _ args s o t => lw_Q args s o t) := by
  intro p e ha hc hk s m args below hf hfit hheap happ hpre
  obtain ⟨b, xs, hP⟩ := lw_pre_spec hpre.2.2 hpre.2.1
  obtain ⟨k, o, h1, h2, h3, hQ⟩ := lw_walk l hst b xs p e ha hc hk s m args below hf ((Spec.applies_iff_loose hf).mp happ).1 hP trivial
  exact ⟨k, o, h1, h2, h3, hQ⟩
theorem lw_frame {s t : State} {o : Outcome} {args : Array Value} (h : Framed s o t [] 601024 7293034) :
    Framed s o t (fieldLocs frame_1_writes args s ++ arrayLocs frame_1_arrays args s ++ staticLocs frame_1_statics s) 601024 7293034 := h
theorem lw_limb (L : Cond) (hL : ∀ (args : Array Value) (s t : State), L.after args s (.returned (some (.int 1))) t = true) :
    ArmFor flags0 classFile x code maxLocals ret World_1 tables_1 room_1 Calls_1 rest_1 Pre_1
      (fun tb e a s o t => postC L tb e a s o t ∧ Framed s o t (fieldLocs frame_1_writes a s ++ arrayLocs frame_1_arrays a s ++ staticLocs frame_1_statics s) 601024 7293034) := by
  intro l hflags _ _ p e ha hc hk s m args below hf hfit hheap happ hpre
  have hst : l.stackTraces = false := by unfold Launch.stackTraces; rw [hflags]; decide +kernel
  obtain ⟨k, o, h1, h2, h3, rfl, hF⟩ := lw_comes l hst p e ha hc hk s m args below hf hfit hheap happ hpre
  exact ⟨k, _, h1, h2, h3, hL args s _, lw_frame hF⟩
theorem i_vc : Claimed_1_1 ∧ Claimed_1_2 := ⟨lw_limb limb_1_1 (fun args s t => by simp [limb_1_1, Cond.after, Cond.holds, Cond.value]), lw_limb limb_1_2 (fun args s t => Cond.after_iff.mpr (by
  first | (rw [show limb_1_2 = Cond.eq .result (.int 1) from rfl, Cond.eq_ints (x := 1) (y := 1) rfl rfl]; simp; done) | (simp [limb_1_2, Cond.value, Term.eval]; done)))⟩

