/-! The component: a state takes in and lets out -/
theorem rlI_s (i : Nat) : eO (rlI i) + 1 = eO (rlI (i + 1)) := by
  cases i with
  | zero => decide
  | succ k => exact n_add1 k
theorem c_trials {B : ((Nat × Nat × Int32 × Int32 × PH) → Option PH) → (Nat × Nat × Int32 × Int32 × PH) → Option PH} {fin : PH → Option PH} {Inv : Nat → PH → Prop} {K q c : Nat} {g : Int32} (step : ∀ i hc zk, i ≤ K → Inv i hc → ∃ hc', Inv (i + 1) hc' ∧ B zk (q, c, g, eO (rlI i), hc) = zk (q, c, g, eO (rlI (i + 1)), hc')) (last : ∀ hc zk, Inv (K + 1) hc → B zk (q, c, g, eO (rlI (K + 1)), hc) = fin hc) : ∀ d i m hc, i + d = K + 1 → d < m → Inv i hc → ∃ h', Inv (K + 1) h' ∧ gi B m (q, c, g, eO (rlI i), hc) = fin h' := by
  intro d
  induction d with
  | zero =>
    intro i m hc hi hm hI
    have : i = K + 1 := by omega
    subst this
    obtain ⟨m, rfl⟩ : ∃ k, m = k + 1 := ⟨m - 1, by omega⟩
    exact ⟨hc, hI, last hc _ hI⟩
  | succ d ih =>
    intro i m hc hi hm hI
    obtain ⟨m, rfl⟩ : ∃ k, m = k + 1 := ⟨m - 1, by omega⟩
    obtain ⟨hc', a1, a2⟩ := step i hc (gi B m) (by omega) hI
    obtain ⟨h', b1, b2⟩ := ih (i + 1) m hc' (by omega) (by omega) a1
    refine ⟨h', b1, ?_⟩
    rw [gi_1, a2]
    exact b2
theorem gmax_n {a c : Nat} (ha : a < 2147483648) (hc : c < 2147483648) : gmax (Int32.ofNat a) (Int32.ofNat c) = Int32.ofNat (if a < c then c else a) := by
  unfold gmax
  by_cases q : a < c
  · rw [if_pos (of_eq_true (nltT q ha hc)), if_pos q]
  · rw [if_neg (of_eq_false (nltF q ha hc)), if_neg q]
theorem gmin_n {a c : Nat} (ha : a < 2147483648) (hc : c < 2147483648) : gmin (Int32.ofNat a) (Int32.ofNat c) = Int32.ofNat (if c < a then c else a) := by
  unfold gmin
  by_cases q : c < a
  · rw [if_pos (of_eq_true (nltT q hc ha)), if_pos q]
  · rw [if_neg (of_eq_false (nltF q hc ha)), if_neg q]
theorem replay_LC {I : IA} (hI : IOk I) {es : List Ev} (hG : evG I (fun _ => false) 0 es) (hl : es.length < 100) {m : Nat} (hm : m ≤ 99999) : LC 10 (hCl m (replay I (fun e => e.2.2.2) es)) := by
  have h1 := hcB_run hI (fun e => e.2.2.2) hG
  have h2 := (replay_fit hI (fun e => e.2.2.2) hG).2
  have h3 := hcB_cl hm h1
  refine ⟨?_, h3⟩
  show (hL (replay I (fun e => e.2.2.2) es)).length + 10 ≤ 1000
  omega
section CState
variable {N : Nat} {h : PH} {I : IA} {S : SA} {q c : Nat} {E : OD}
/-- the minute is noted -/
theorem c_note (r : RSt I S q h) (hI : IOk I) (hS : SOk I S) {m : Nat} (hm : m ≤ 99999) : ∃ h', f_X9_note N q (Int32.ofNat m) h = some h' ∧ Fr (fun x => x = q ∨ (q + 7 ≤ x ∧ x < q + 9)) h h' ∧ r0 (hCl m (hR I S)) (q + 7) h' ∧ (∃ D, At sX9 q D h' ∧ (ov D 0 = .ref 4 ∧ ov D 1 = .ref (q + 1) ∧ ov D 2 = .ref (q + 6) ∧ ov D 3 = .ref (q + 7) ∧ ov D 4 = .ref (q + 9) ∧ ov D 5 = .ref (q + 15) ∧ ov D 6 = .ref (q + 18)) ∧ oi D 7 = Int32.ofNat (msk (fun g => (sB S).contains g) 10) ∧ oi D 8 = eO (sR S) ∧ oi D 9 = Int32.ofNat m ∧ oi D 10 = Int32.ofNat ((sE S).length + 1)) := by
  obtain ⟨a1, a2, a3, ⟨G, g1, g2⟩, _⟩ := r
  have e3 := a1.e.2.2.2.2.1
  obtain ⟨D, d1, d2, d7, d8, d9, d10⟩ := a1
  obtain ⟨y1, y2, y3⟩ := g2
  have hb := hcB_run hI (fun e => e.2.2.2) hS.2.2.1
  have hb2 := (replay_fit hI (fun e => e.2.2.2) hS.2.2.1).2
  have hl := hS.2.1
  have hC : hC (hR I S) < 2147483648 := by unfold hcB at hb; unfold hR; omega
  have g3 : At sX0 (q + 7) (si G 2 (Int32.ofNat (if Jvm.Pilot.CMoveInnLaw_law_r8068_e02dce.hC (hR I S) < m then m else Jvm.Pilot.CMoveInnLaw_law_r8068_e02dce.hC (hR I S)))) (pt sX0 (q + 7) (si G 2 (Int32.ofNat (if Jvm.Pilot.CMoveInnLaw_law_r8068_e02dce.hC (hR I S) < m then m else Jvm.Pilot.CMoveInnLaw_law_r8068_e02dce.hC (hR I S)))) h) := g1.p2
  generalize hG1 : si G 2 (Int32.ofNat (if Jvm.Pilot.CMoveInnLaw_law_r8068_e02dce.hC (hR I S) < m then m else Jvm.Pilot.CMoveInnLaw_law_r8068_e02dce.hC (hR I S))) = G1 at g3
  have d3 : At sX9 q D (pt sX0 (q + 7) G1 h) := d1.out (by simp only [z0, z9]; omega)
  have d4 : At sX9 q (si D 9 (Int32.ofNat m)) (pt sX9 q (si D 9 (Int32.ofNat m)) (pt sX0 (q + 7) G1 h)) := d3.p2
  have d5 : At sX9 q (si (si D 9 (Int32.ofNat m)) 10 (Int32.ofNat ((sE S).length + 1))) (pt sX9 q (si (si D 9 (Int32.ofNat m)) 10 (Int32.ofNat ((sE S).length + 1))) (pt sX0 (q + 7) G1 h)) := d3.p2
  refine ⟨pt sX9 q (si (si D 9 (Int32.ofNat m)) 10 (Int32.ofNat ((sE S).length + 1))) (pt sX0 (q + 7) G1 h), ?_, ?_, ?_, ?_⟩
  · unfold f_X9_note f_X0_beginChain
    rw [e3, gb_s, g1.is rfl, gg_t, g1.gI (k := 2) rfl rfl, gb_s, y2, gmax_n hC (by omega), g1.sI (k := 2) rfl rfl, gb_s, gb_s, hG1, d3.sI (k := 9) rfl rfl, gb_s, d4.gI (k := 10) rfl rfl, gb_s, d4.sI (k := 10) rfl rfl, gb_s, pt_pt, oi_si, if_neg (by decide), d10, n_add1]
  · exact (Fr.of (fun x h1 h2 => by simp only [z0] at h2; omega)).tr (Fr.of (fun x h1 h2 => by simp only [z9] at h2; omega))
  · refine ⟨G1, g3.out (by simp only [z0, z9]; omega), ?_, ?_, ?_⟩
    · rw [← hG1]; exact y1
    · rw [← hG1, oi_si, if_pos rfl]; rfl
    · rw [← hG1]; exact y3
  · refine ⟨_, d5, d2, d7, d8, ?_, ?_⟩
    · rw [oi_si, if_neg (by decide), oi_si, if_pos rfl]
    · rw [oi_si, if_pos rfl]
end CState

