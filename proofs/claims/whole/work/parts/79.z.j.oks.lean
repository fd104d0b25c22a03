/-! What is told keeps what can be -/
section Oks
variable {A : AA}
theorem setS_ok (hA' : AOk A) {S : SA} (h : SOk (aI A) S) : AOk (setS A S) := ⟨hA'.1, h, hA'.2.2.1, hA'.2.2.2.1, hA'.2.2.2.2⟩
theorem use_ok (hA' : AOk A) (r : Int32) : AOk (useS A r) := by
  obtain ⟨s1, s2⟩ := hA'.2.1
  unfold useS
  cases z : ruleOf (aI A) r with
  | none => exact hA'
  | some x =>
    refine setS_ok hA' ⟨?_, s2⟩
    intro k hk
    have hk : x = some k := hk
    subst hk
    unfold ruleOf at z
    split at z
    · cases z
    · split at z
      · rename_i w
        have b3 := hA'.1.2.2.1
        obtain ⟨j, hj, e⟩ := isN_t (by omega) w
        subst e
        rw [i_okc (by omega)] at z
        cases z
        exact hj
      · cases z
theorem sight_ok (hA' : AOk A) (g r m : Int32) : AOk (sightS A g r m) := by
  obtain ⟨s1, s2, s3, s4, s5, s6⟩ := hA'.2.1
  unfold sightS
  split
  · rename_i z
    unfold sightOk at z
    simp only [Bool.and_eq_true, decide_eq_true_iff] at z
    have b1 := hA'.1.1
    have b2 := hA'.1.2.1
    obtain ⟨x, hx, rfl⟩ := isN_t (by omega) z.1.1.1
    obtain ⟨y, hy, rfl⟩ := isN_t (by omega) z.1.1.2
    obtain ⟨w, hw, rfl⟩ := isN_t (by omega) z.1.2
    refine setS_ok hA' ⟨s1, s2, s3, ?_, ?_, s6⟩
    · show (sS (aS A) ++ [_]).length ≤ 20
      rw [List.length_append]
      have := z.2
      show (sS (aS A)).length + 1 ≤ 20
      omega
    · intro t ht
      have ht : t ∈ sS (aS A) ++ [_] := ht
      rcases List.mem_append.mp ht with u | u
      · exact s5 t u
      · rw [List.mem_singleton.mp u, i_okc (by omega), i_okc (by omega), i_okc (by omega)]
        exact ⟨hx, hy, by show w ≤ 99999; omega⟩
  · exact hA'
theorem page_ok (hA' : AOk A) (g s : Int32) : AOk (pageS A g s) := by
  obtain ⟨s1, s2, s3, s4, s5, s6, s7⟩ := hA'.2.1
  unfold pageS
  split
  · rename_i z
    unfold pageOk at z
    simp only [Bool.and_eq_true] at z
    have b1 := hA'.1.1
    have b2 := hA'.1.2.1
    have pl := pow_le b1
    obtain ⟨x, hx, rfl⟩ := isN_t (by omega) z.1
    obtain ⟨y, hy, rfl⟩ := isN_t (by omega) z.2
    refine setS_ok hA' ⟨s1, s2, s3, s4, s5, ?_, s7⟩
    intro k
    show fu (sP (aS A)) _ _ k < 2 ^ iR (aI A) ∧ (iG (aI A) ≤ k → fu (sP (aS A)) _ _ k = 0)
    rw [i_okc (by omega), i_okc (by omega), fu_at]
    by_cases w : k = x
    · rw [if_pos w]
      exact ⟨hy, fun u => by omega⟩
    · rw [if_neg w]
      exact s6 k
  · exact hA'
theorem job_ok (hA' : AOk A) (a s b : Int32) : AOk (jobS A a s b) := by
  obtain ⟨s1, s2, s3, s4, s5, s6, s7, s8, s9⟩ := hA'.2.1
  unfold jobS
  split
  · rename_i z
    unfold jobOk at z
    simp only [Bool.and_eq_true, decide_eq_true_iff] at z
    obtain ⟨x, hx, rfl⟩ := isN_t (by omega) z.1.1.1
    obtain ⟨y, hy, rfl⟩ := isN_t (by omega) z.1.1.2.1
    obtain ⟨w, hw, rfl⟩ := isN_t (by omega) z.1.2
    refine setS_ok hA' ⟨s1, s2, s3, s4, s5, s6, ?_, ?_, s9⟩
    · show (sJ (aS A) ++ [_]).length ≤ 7
      rw [List.length_append]
      have := z.2
      show (sJ (aS A)).length + 1 ≤ 7
      omega
    · intro t ht
      have ht : t ∈ sJ (aS A) ++ [_] := ht
      rcases List.mem_append.mp ht with u | u
      · exact s8 t u
      · rw [List.mem_singleton.mp u, i_okc (by omega), i_okc (by omega), i_okc (by omega)]
        have y0 : y ≠ 0 := fun v => z.1.1.2.2 (by rw [v]; rfl)
        exact ⟨by show x ≤ 99; omega, by show 1 ≤ y; omega, by show y ≤ 99; omega, by show w ≤ 99; omega⟩
  · exact hA'
theorem book_ok (hA' : AOk A) (g : Int32) : AOk (bookS A g) := by
  obtain ⟨s1, s2, s3, s4, s5, s6, s7, s8, s9, s10, s11⟩ := hA'.2.1
  unfold bookS
  split
  · exact setS_ok hA' ⟨s1, s2, s3, s4, s5, s6, s7, s8, Nat.zero_le _, List.nodup_nil, fun g hg => (by cases hg)⟩
  · split
    · rename_i z
      unfold bookOk at z
      simp only [Bool.and_eq_true, decide_eq_true_iff, Bool.not_eq_true'] at z
      have b2 := hA'.1.2.1
      obtain ⟨x, hx, rfl⟩ := isN_t (by omega) z.1.1.1
      rw [i_okc (by omega)] at z ⊢
      have nx : x ∉ sB (aS A) := fun w => by
        have := z.1.2
        rw [List.contains_iff_mem.mpr w] at this
        cases this
      refine setS_ok hA' ⟨s1, s2, s3, s4, s5, s6, s7, s8, ?_, ?_, ?_⟩
      · show (sB (aS A) ++ [x]).length ≤ 7
        rw [List.length_append]
        have := z.2
        show (sB (aS A)).length + 1 ≤ 7
        omega
      · show (sB (aS A) ++ [x]).Nodup
        rw [List.nodup_append]
        refine ⟨s10, List.nodup_cons.mpr ⟨List.not_mem_nil, List.nodup_nil⟩, ?_⟩
        intro u hu v hv w
        rw [List.mem_singleton.mp hv] at w
        subst w
        exact nx hu
      · intro t ht
        have ht : t ∈ sB (aS A) ++ [x] := ht
        rcases List.mem_append.mp ht with u | u
        · exact s11 t u
        · rw [List.mem_singleton.mp u]
          exact ⟨hx, z.1.1.2⟩
    · exact hA'
theorem clear_ok (hA' : AOk A) : AOk (clearS A) := by
  obtain ⟨s1, s2, s3, s4, s5, s6, s7, s8, s9⟩ := hA'.2.1
  exact setS_ok hA' ⟨s1, s2, s3, Nat.zero_le _, fun x hx => (by cases hx), s6, Nat.zero_le _, fun x hx => (by cases hx), s9⟩
theorem A0_ok : AOk A0A := ⟨I0_ok, ⟨fun k hk => (by cases hk), Nat.zero_le _, trivial, Nat.zero_le _, fun x hx => (by cases hx), fun g => ⟨Nat.two_pow_pos _, fun _ => rfl⟩, Nat.zero_le _, fun x hx => (by cases hx), Nat.zero_le _, List.nodup_nil, fun g hg => (by cases hg)⟩, Nat.zero_le _, fun c hc => (by cases hc), fun m S hS => (by cases hS)⟩
end Oks
/-! Both beside each other -/
def INV (A : AA) (h : PH) : Prop := AOk A ∧ RepC A h ∧ (∃ M, At sX12 80 M h ∧ RepMod A M) ∧ ∃ f, h[105]? = some (.inl (1, 1, .inr (.inl f)))
section Both
variable {A A' : AA} {h h' : PH}
theorem RepC.md (q : RepC A h) (f : Fr (fun x => 80 ≤ x ∧ x < 106) h h') (hl : 106 ≤ h'.length) : RepC A h' := by
  obtain ⟨b, mk, a1, a2, a3, a4, a5, a6, a7, a8, a9, a10, a11, a12, a13⟩ := q
  have c1 := cu_lt b
  have c2 := cu_lt (!b)
  exact ⟨b, mk, a1.fr f (by omega), a2.fr f (fun x _ _ => by omega), a3.fr f (by omega), a4.fr f (fun x _ _ => by omega), a5.fr f (fun x _ _ => by omega), a6.fr f (fun x _ _ => by omega), a7.fr f (fun x _ _ => by omega), a8.fr f (fun x _ => by omega), a9.fr f (fun x _ _ => by omega), a10.fr f (fun x _ _ => by omega), a11.fr f (by omega), a12.fr f (by omega), hl⟩
theorem RepC.ln (q : RepC A h) : 106 ≤ h.length := by
  obtain ⟨b, mk, a1, a2, a3, a4, a5, a6, a7, a8, a9, a10, a11, a12, a13⟩ := q
  exact a13
theorem RepC.is (q : RepC A h) : gIs 11 0 h = true := by
  obtain ⟨b, mk, q⟩ := q
  exact q.is11
theorem INV.c (q : INV A h) (hok : AOk A') (r : RepC A' h') (f : Fr (fun x => ¬ Md x) h h') : ∃ M, At sX12 80 M h' ∧ RepMod A M ∧ ∃ f, h'[105]? = some (.inl (1, 1, .inr (.inl f))) := by
  obtain ⟨q1, q2, ⟨M, q3, q4⟩, ff, q5⟩ := q
  refine ⟨M, q3.fr f (fun x x1 x2 => ?_), q4, ff, ?_⟩
  · simp only [z12] at x2
    unfold Md
    omega
  · rw [f 105 (by unfold Md; omega)]
    exact q5
theorem INV.m {M M' : OD} (hok : AOk A') (r : RepC A' h) (hM : At sX12 80 M h) (r2 : RepMod A' M') {ff : Nat → Int64} (hf : h[105]? = some (.inl (1, 1, .inr (.inl ff)))) : INV A' (pt sX12 80 M' h) := by
  have fr : Fr (fun x => 80 ≤ x ∧ x < 105) h (pt sX12 80 M' h) := Fr.of (fun x x1 x2 => by simp only [z12] at x2; omega)
  refine ⟨hok, r.md (fr.up (fun x hx => by omega)) (by rw [pt_len]; exact r.ln), ⟨M', hM.p2, r2⟩, ff, ?_⟩
  rw [fr 105 (by omega)]
  exact hf
theorem stepI {F G : PH → Option (Int32 × PH)} {v : Int32} (hok : AOk A') (c : CAns A A' F v) (m : MAns A A' G v) (q : INV A h) : ∃ h1 h2, F h = some (v, h1) ∧ gIs 12 80 h1 = true ∧ G h1 = some (v, h2) ∧ INV A' h2 := by
  obtain ⟨h1, c1, c2, c3⟩ := c h q.2.1
  obtain ⟨M, m1, m2, ff, m3⟩ := q.c hok c2 c3
  obtain ⟨M', n1, n2⟩ := m M h1 m1.1 m2
  rw [m1.2] at n1
  exact ⟨h1, _, c1, m1.is rfl, n1, INV.m hok c2 m1 n2 m3⟩
theorem stepL {F G : PH → Option (Int64 × PH)} {v : Int64} (hok : AOk A') (c : CAnsL A A' F v) (m : MAnsL A A' G v) (q : INV A h) : ∃ h1 h2, F h = some (v, h1) ∧ gIs 12 80 h1 = true ∧ G h1 = some (v, h2) ∧ INV A' h2 := by
  obtain ⟨h1, c1, c2, c3⟩ := c h q.2.1
  obtain ⟨M, m1, m2, ff, m3⟩ := q.c hok c2 c3
  obtain ⟨M', n1, n2⟩ := m M h1 m1.1 m2
  rw [m1.2] at n1
  exact ⟨h1, _, c1, m1.is rfl, n1, INV.m hok c2 m1 n2 m3⟩
theorem o_set {ff : Nat → Int64} {x : Int64} (hf : h[105]? = some (.inl (1, 1, .inr (.inl ff)))) : asL 1 105 0 x h = some (h.set 105 (.inl (1, 1, .inr (.inl (vp_updL ff 0 x))))) := by
  unfold asL
  rw [hf]
  rfl
theorem o_get {ff : Nat → Int64} (hf : h[105]? = some (.inl (1, 1, .inr (.inl ff)))) : arL 1 105 0 h = some (ff 0) := by
  unfold arL
  rw [hf]
  rfl
theorem cmp_self (x : Int64) : lg_cmp x x = 0 := by
  unfold lg_cmp
  simp
/-- gives: answered or thrown -/
theorem stepG {N : Nat} (hN : 2000 ≤ N) (q : INV A h) (r g gap : Int32) : ∃ h1 h2 k, f_L_gives N 0 r g gap 105 h = some (k, h1) ∧ gIs 12 80 h1 = true ∧ f_X12_gives N 80 r g gap h1 = some ((givesS A r g gap).getD 0, h2) ∧ gIs 12 80 h2 = true ∧ f_X12_thrown N 80 h2 = some (k, h2) ∧ (k = 1 ∨ (k = 0 ∧ arL 1 105 0 h2 = some (Int32.toInt64 ((givesS A r g gap).getD 0)))) ∧ INV A h2 := by
  obtain ⟨h1, c1, c2, c3⟩ := c_gives (N := N) hN q.1 r g gap q.2.1
  obtain ⟨M, m1, m2, ff, m3⟩ := q.c q.1 c2 c3
  have is := q.2.1.is
  cases z : givesS A r g gap with
  | none =>
    obtain ⟨M', n1, n2, n3⟩ := m_gives (N := N) (h := h1) m1.1 hN q.1 m2 r g gap
    rw [m1.2] at n1
    rw [z] at n1 n3 c1
    have nv := INV.m q.1 c2 m1 n2 m3
    refine ⟨h1, pt sX12 80 M' h1, 1, ?_, m1.is rfl, n1, gIs_pt m1.1 rfl, ?_, Or.inl rfl, nv⟩
    · unfold f_L_gives
      rw [is, gg_t, c1, gc_s]
      rfl
    · unfold f_X12_thrown
      rw [qg12_0 m1.1, gb_s, n3]
      rfl
  | some v =>
    have fr : Fr (fun x => x = 105) h1 (h1.set 105 (.inl (1, 1, .inr (.inl (vp_updL ff 0 (Int32.toInt64 v)))))) := by
      intro a ha
      rw [List.getElem?_set, if_neg (fun w => ha w.symm)]
    have hl : 105 < h1.length := by have := c2.ln; omega
    have m4 : (h1.set 105 (.inl (1, 1, .inr (.inl (vp_updL ff 0 (Int32.toInt64 v))))))[105]? = some (.inl (1, 1, .inr (.inl (vp_updL ff 0 (Int32.toInt64 v))))) := by
      rw [List.getElem?_set, if_pos rfl, if_pos hl]
    have os := o_set (x := Int32.toInt64 v) m3
    have l3 : (h1.set 105 (.inl (1, 1, .inr (.inl (vp_updL ff 0 (Int32.toInt64 v)))))).length = h1.length := List.length_set
    generalize h1.set 105 (.inl (1, 1, .inr (.inl (vp_updL ff 0 (Int32.toInt64 v))))) = h3 at fr m4 os l3
    have c4 : RepC A h3 := c2.md (fr.up (fun x hx => by omega)) (by have := c2.ln; omega)
    have m5 : At sX12 80 M h3 := m1.fr fr (fun x x1 x2 => by simp only [z12] at x2; omega)
    obtain ⟨M', n1, n2, n3⟩ := m_gives (N := N) (h := h3) m5.1 hN q.1 m2 r g gap
    rw [m5.2] at n1
    rw [z] at n1 n3 c1
    have nv := INV.m q.1 c4 m5 n2 m4
    refine ⟨h3, pt sX12 80 M' h3, 0, ?_, m5.is rfl, n1, gIs_pt m5.1 rfl, ?_, Or.inr ⟨rfl, ?_⟩, nv⟩
    · unfold f_L_gives
      rw [is, gg_t, c1, gc_s]
      show gb (asL 1 105 0 (Int32.toInt64 v) h1) _ = _
      rw [os, gb_s]
    · unfold f_X12_thrown
      rw [qg12_0 m5.1, gb_s, n3]
      rfl
    · have fr2 : Fr (fun x => 80 ≤ x ∧ x < 105) h3 (pt sX12 80 M' h3) := Fr.of (fun x x1 x2 => by simp only [z12] at x2; omega)
      have e : (pt sX12 80 M' h3)[105]? = some (.inl (1, 1, .inr (.inl (vp_updL ff 0 (Int32.toInt64 v))))) := by
        rw [fr2 105 (by omega)]
        exact m4
      rw [o_get e, updL_eq rfl]
      rfl
end Both

