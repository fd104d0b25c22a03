/-! Order: the best is the plan -/
def fl1 (I : IA) (B : List Nat) (q : Nat) (g : Nat) : Bool := B.contains g && !decide (g = q) && decide (iBa I g = 0)
def fl2 (I : IA) (B : List Nat) (q : Nat) (g : Nat) : Bool := B.contains g && !decide (g = q) && !decide (iBa I g = 0)
def fl3 (B : List Nat) (q : Nat) (g : Nat) : Bool := B.contains g && decide (g = q)
def flR (p : Nat → Bool) (n : Nat) : List Nat := (List.range n).filter p
def plR (I : IA) (B : List Nat) (q : Nat) : List Nat := flR (fl1 I B q) 10 ++ (flR (fl2 I B q) 10 ++ flR (fl3 B q) 10)
def rkR (I : IA) (q g : Nat) : Nat := (if g = q then 2 else if iBa I g = 0 then 0 else 1) * 16 + g
section OBest
variable {I : IA} {B : List Nat} {q : Nat}
theorem flR_m {p : Nat → Bool} {n g : Nat} : g ∈ flR p n ↔ g < n ∧ p g = true := by
  unfold flR
  rw [List.mem_filter, List.mem_range]
theorem fl1_t {g : Nat} : fl1 I B q g = true ↔ g ∈ B ∧ g ≠ q ∧ iBa I g = 0 := by
  unfold fl1
  rw [Bool.and_eq_true, Bool.and_eq_true, List.contains_iff_mem, Bool.not_eq_true', decide_eq_false_iff_not, decide_eq_true_iff, and_assoc]
theorem fl2_t {g : Nat} : fl2 I B q g = true ↔ g ∈ B ∧ g ≠ q ∧ iBa I g ≠ 0 := by
  unfold fl2
  rw [Bool.and_eq_true, Bool.and_eq_true, List.contains_iff_mem, Bool.not_eq_true', decide_eq_false_iff_not, Bool.not_eq_true', decide_eq_false_iff_not, and_assoc]
theorem fl3_t {g : Nat} : fl3 B q g = true ↔ g ∈ B ∧ g = q := by
  unfold fl3
  rw [Bool.and_eq_true, List.contains_iff_mem, decide_eq_true_iff]
theorem pl_mem {g : Nat} : g ∈ plR I B q ↔ g < 10 ∧ g ∈ B := by
  unfold plR
  rw [List.mem_append, List.mem_append, flR_m, flR_m, flR_m, fl1_t, fl2_t, fl3_t]
  constructor
  · rintro (⟨a, b, _⟩ | ⟨a, b, _⟩ | ⟨a, b, _⟩) <;> exact ⟨a, b⟩
  · rintro ⟨a, b⟩
    by_cases z : g = q
    · exact Or.inr (Or.inr ⟨a, b, z⟩)
    · by_cases w : iBa I g = 0
      · exact Or.inl ⟨a, b, z, w⟩
      · exact Or.inr (Or.inl ⟨a, b, z, w⟩)
theorem flR_pw (p : Nat → Bool) (n : Nat) : (flR p n).Pairwise (fun a b => a < b) := List.Pairwise.filter p List.pairwise_lt_range
theorem rk_1 {g : Nat} (h : fl1 I B q g = true) : rkR I q g = g := by
  have h := fl1_t.mp h
  unfold rkR
  rw [if_neg h.2.1, if_pos h.2.2]
  omega
theorem rk_2 {g : Nat} (h : fl2 I B q g = true) : rkR I q g = 16 + g := by
  have h := fl2_t.mp h
  unfold rkR
  rw [if_neg h.2.1, if_neg h.2.2]
theorem rk_3 {g : Nat} (h : fl3 B q g = true) : rkR I q g = 32 + g := by
  have h := fl3_t.mp h
  unfold rkR
  rw [if_pos h.2]
theorem pl_pw : (plR I B q).Pairwise (fun a b => rkR I q a < rkR I q b) := by
  unfold plR
  rw [List.pairwise_append, List.pairwise_append]
  refine ⟨?_, ⟨?_, ?_, ?_⟩, ?_⟩
  · refine List.Pairwise.imp_of_mem (fun {a b} ha hb h => ?_) (flR_pw (fl1 I B q) 10)
    rw [rk_1 (flR_m.mp ha).2, rk_1 (flR_m.mp hb).2]
    exact h
  · refine List.Pairwise.imp_of_mem (fun {a b} ha hb h => ?_) (flR_pw (fl2 I B q) 10)
    rw [rk_2 (flR_m.mp ha).2, rk_2 (flR_m.mp hb).2]
    omega
  · refine List.Pairwise.imp_of_mem (fun {a b} ha hb h => ?_) (flR_pw (fl3 B q) 10)
    rw [rk_3 (flR_m.mp ha).2, rk_3 (flR_m.mp hb).2]
    omega
  · intro a ha b hb
    have := (flR_m.mp ha).1
    rw [rk_2 (flR_m.mp ha).2, rk_3 (flR_m.mp hb).2]
    omega
  · intro a ha b hb
    have := (flR_m.mp ha).1
    rw [rk_1 (flR_m.mp ha).2]
    rcases List.mem_append.mp hb with w | w
    · rw [rk_2 (flR_m.mp w).2]
      omega
    · rw [rk_3 (flR_m.mp w).2]
      omega
theorem pl_nd : (plR I B q).Nodup := List.Pairwise.imp (fun {a b} h => fun z => by subst z; exact absurd h (Nat.lt_irrefl _)) (pl_pw (I := I) (B := B) (q := q))
theorem pl_len (hB : B.Nodup) (hb : ∀ g, g ∈ B → g < 10) : (plR I B q).length = B.length := by
  rw [← cntB_l (n := 10) _ (pl_nd (I := I) (B := B) (q := q)) (fun x hx => (pl_mem.mp hx).1), ← cntB_l (n := 10) B hB hb]
  refine cntB_ext (fun k hk => ?_)
  rw [Bool.eq_iff_iff, List.contains_iff_mem, List.contains_iff_mem, pl_mem]
  exact ⟨fun h => h.2, fun h => ⟨hk, h⟩⟩
theorem mv_pw : ∀ r : List Nat, (∀ g, g ∈ r → g < 10) → r.Pairwise (fun a b => rkR I q a < rkR I q b) → mvR q r = 0 := by
  intro r
  induction r with
  | nil => intro _ _; rfl
  | cons g r ih =>
    intro hl hp
    obtain ⟨p1, p2⟩ := List.pairwise_cons.mp hp
    show (if g = q then r.length else mvR q r) = 0
    by_cases z : g = q
    · rw [if_pos z]
      match r, p1, hl with
      | [], _, _ => rfl
      | b :: r, p1, hl =>
        exfalso
        have h1 := p1 b (List.mem_cons_self ..)
        have h2 := hl b (List.mem_cons_of_mem _ (List.mem_cons_self ..))
        unfold rkR at h1
        rw [if_pos z] at h1
        by_cases w : b = q
        · rw [if_pos w] at h1; omega
        · rw [if_neg w] at h1
          split at h1 <;> omega
    · rw [if_neg z]
      exact ih (fun x hx => hl x (List.mem_cons_of_mem _ hx)) p2
theorem inv_pw : ∀ r : List Nat, (∀ g, g ∈ r → g < 10) → r.Pairwise (fun a b => rkR I q a < rkR I q b) → ¬ invR I q r := by
  intro r
  induction r with
  | nil => intro _ _ h; exact h
  | cons g r ih =>
    intro hl hp
    obtain ⟨p1, p2⟩ := List.pairwise_cons.mp hp
    rintro (⟨a, b, j, c, d, e⟩ | w)
    · have h1 := p1 j c
      have h2 := hl j (List.mem_cons_of_mem _ c)
      unfold rkR at h1
      rw [if_neg a, if_neg b, if_neg d, if_pos e] at h1
      omega
    · exact ih (fun x hx => hl x (List.mem_cons_of_mem _ hx)) p2 w
theorem mvR_p {a b : List Nat} (h : q ∉ a) : mvR q (a ++ b) = mvR q b := by
  induction a with
  | nil => rfl
  | cons g a ih =>
    show (if g = q then (a ++ b).length else mvR q (a ++ b)) = _
    rw [if_neg (fun w => h (by rw [w]; exact List.mem_cons_self ..))]
    exact ih (fun w => h (List.mem_cons_of_mem _ w))
variable {A : AA}
theorem ord_eq (hA' : AOk A) (hcap : nInS (sE (aS A)) + (sB (aS A)).length ≤ iR (aI A)) {a b : List Nat} (ha : BOk A a) (hb : BOk A b) (la : a.length = (sB (aS A)).length) (lb : b.length = (sB (aS A)).length) : ordLt A q a b = (decide (mvR q a < mvR q b) || (decide (mvR q a = mvR q b) && decide (spR (aI A) a < spR (aI A) b))) := by
  have f0 := hA_fit hA'
  have ca := ha.can hA' hcap (by omega)
  have cb := hb.can hA' hcap (by omega)
  obtain ⟨t1, t2, t3⟩ := come_two hA'.1 f0 a b (by omega) ca cb
  have t2 := t2 q
  have u1 := (comeL_fit hA'.1 a _ _ _ f0 ca).2.2 q
  have u2 := (comeL_fit hA'.1 b _ _ _ f0 cb).2.2 q
  have e1 : (ordM A q a < ordM A q b) ↔ (mvR q a < mvR q b) := by unfold ordM; omega
  have e2 : (ordM A q a = ordM A q b) ↔ (mvR q a = mvR q b) := by unfold ordM; omega
  have e3 : (ordP A a < ordP A b) ↔ (spR (aI A) a < spR (aI A) b) := by unfold ordP; omega
  unfold ordLt
  rw [decide_eq_decide.mpr e1, decide_eq_decide.mpr e2, decide_eq_decide.mpr e3]
theorem ordBest_pl (hA' : AOk A) (hcap : nInS (sE (aS A)) + (sB (aS A)).length ≤ iR (aI A)) (hq : q < iG (aI A)) : ordBest A q = plR (aI A) (sB (aS A)) q := by
  have hs := hA'.2.1.2.2.2.2.2.2.2.2.2
  have hG := hA'.1.2.1
  have hb10 : ∀ g, g ∈ sB (aS A) → g < 10 := fun g hg => by have := (hs.2 g hg).1; omega
  have hba : ∀ g, g ∈ sB (aS A) → iBa (aI A) g ≤ 1 := fun g hg => (hA'.1.2.2.2.2.1 g (hs.2 g hg).1).2.1
  have Rl := pl_len (I := aI A) (q := q) hs.1 hb10
  have Rn := pl_nd (I := aI A) (B := sB (aS A)) (q := q)
  have Rp := pl_pw (I := aI A) (B := sB (aS A)) (q := q)
  have Rm : ∀ g, g ∈ plR (aI A) (sB (aS A)) q ↔ g ∈ sB (aS A) := fun g => pl_mem.trans ⟨fun h => h.2, fun h => ⟨hb10 g h, h⟩⟩
  have R10 : ∀ g, g ∈ plR (aI A) (sB (aS A)) q → g < 10 := fun g hg => (pl_mem.mp hg).1
  have Rmv := mv_pw _ R10 Rp
  have Riv := inv_pw _ R10 Rp
  generalize hR : plR (aI A) (sB (aS A)) q = R at *
  have Rsp := sp_eq (I := aI A) (q := q) R Rn (fun g hg => hba g ((Rm g).mp hg)) Rmv Riv
  have RB : BOk A R := ⟨Rn, fun g hg => (Rm g).mp hg⟩
  have toB : ∀ c, PrG (fun g => (sB (aS A)).contains g) (iG (aI A)) c → BOk A c := fun c hc => ⟨hc.1, fun g hg => List.contains_iff_mem.mp (hc.2 g hg).1⟩
  have mem : ∀ c, c.length = (sB (aS A)).length → BOk A c → ∀ g, g ∈ c ↔ g ∈ sB (aS A) := by
    intro c hl hc g
    refine ⟨hc.2 g, fun hg => ?_⟩
    have e := cntB_same (p := fun k => c.contains k) (r := fun k => (sB (aS A)).contains k) 10 (fun k _ hk => List.contains_iff_mem.mpr (hc.2 k (List.contains_iff_mem.mp hk))) (by
      rw [cntB_l c hc.1 (fun x hx => hb10 x (hc.2 x hx)), cntB_l _ hs.1 hb10, hl]) g (hb10 g hg)
    have e : c.contains g = (sB (aS A)).contains g := e
    rw [List.contains_iff_mem.mpr hg] at e
    exact List.contains_iff_mem.mp e
  have fs : ∀ c, c.length = (sB (aS A)).length → BOk A c → cbR (aI A) q c = cbR (aI A) q R ∧ eR q c = eR q R := by
    intro c hl hc
    have mc := mem c hl hc
    constructor
    · rw [cb_cnt (n := 10) c hc.1 (fun x hx => hb10 x (hc.2 x hx)), cb_cnt (n := 10) R Rn R10]
      refine cntB_ext (fun k _ => ?_)
      have : c.contains k = R.contains k := by
        rw [Bool.eq_iff_iff, List.contains_iff_mem, List.contains_iff_mem, mc k, Rm k]
      rw [this]
    · unfold eR
      have : (q ∈ c) ↔ q ∈ R := by rw [mc q, Rm q]
      simp only [this]
  have hm : ∀ c, c.length = (sB (aS A)).length → PrG (fun g => (sB (aS A)).contains g) (iG (aI A)) c → ordLt A q c R = false := by
    intro c hl hc
    have cB := toB c hc
    obtain ⟨g1, g2⟩ := fs c hl cB
    rw [ord_eq hA' hcap cB RB hl Rl, Rmv, decide_eq_false (Nat.not_lt_zero _), Bool.false_or]
    by_cases z : mvR q c = 0
    · have lo := (sp_low (I := aI A) (q := q) c (fun g hg => hba g (cB.2 g hg)) z).1
      rw [g1, g2, ← Rsp] at lo
      rw [decide_eq_false (p := spR (aI A) c < spR (aI A) R) (by omega), Bool.and_false]
    · rw [decide_eq_false z, Bool.false_and]
  have hx : ∀ (m x i : Nat) (c : List Nat), R[m]? = some x → i < x → (R.take m ++ i :: c).length = (sB (aS A)).length → PrG (fun g => (sB (aS A)).contains g) (iG (aI A)) (R.take m ++ i :: c) → ordLt A q R (R.take m ++ i :: c) = true := by
    intro m x i c hmx hix hl hc
    have cB := toB _ hc
    obtain ⟨g1, g2⟩ := fs _ hl cB
    have mc := mem _ hl cB
    have nd := List.nodup_append.mp hc.1
    have iB : i ∈ sB (aS A) := cB.2 i (List.mem_append_right _ (List.mem_cons_self ..))
    have iN : i ∉ R.take m := fun w => nd.2.2 i w i (List.mem_cons_self ..) rfl
    have xR := List.mem_of_getElem? hmx
    have ml := ln_of hmx
    have pw := List.pairwise_iff_getElem.mp Rp
    have xe : R[m] = x := by
      rw [List.getElem?_eq_getElem ml] at hmx
      exact Option.some.inj hmx
    have xN : x ∉ R.take m := by
      intro w
      obtain ⟨j, hj⟩ := List.getElem?_of_mem w
      have jl := ln_of hj
      rw [List.length_take] at jl
      rw [List.getElem?_take, if_pos (by omega), List.getElem?_eq_getElem (by omega)] at hj
      have := pw j m (by omega) ml (by omega)
      rw [Option.some.inj hj, xe] at this
      exact absurd this (Nat.lt_irrefl _)
    have xc : x ∈ c := by
      rcases List.mem_append.mp ((mc x).mpr ((Rm x).mp xR)) with w | w
      · exact absurd w xN
      · rcases List.mem_cons.mp w with u | u
        · omega
        · exact u
    have cl : 0 < c.length := List.length_pos_of_mem xc
    rw [ord_eq hA' hcap RB cB Rl hl, Rmv]
    by_cases z : i = q
    · have e : mvR q (R.take m ++ i :: c) = c.length := by
        rw [mvR_p (by rw [← z]; exact iN)]
        show (if i = q then c.length else mvR q c) = _
        rw [if_pos z]
      rw [e, decide_eq_true cl, Bool.true_or]
    · obtain ⟨m', hm'⟩ := List.getElem?_of_mem ((Rm i).mpr iB)
      have m'l := ln_of hm'
      have ie : R[m'] = i := by
        rw [List.getElem?_eq_getElem m'l] at hm'
        exact Option.some.inj hm'
      have mm : m < m' := by
        rcases Nat.lt_trichotomy m m' with w | w | w
        · exact w
        · subst w
          rw [xe] at ie
          omega
        · exfalso
          apply iN
          have : (R.take m)[m']? = some i := by
            rw [List.getElem?_take, if_pos w]
            exact hm'
          exact List.mem_of_getElem? this
      have rk := pw m m' ml m'l mm
      rw [xe, ie] at rk
      have x10 := R10 x xR
      unfold rkR at rk
      rw [if_neg z] at rk
      have xq : x ≠ q := by
        intro w
        rw [if_pos w] at rk
        split at rk <;> omega
      rw [if_neg xq] at rk
      have b1 : iBa (aI A) x = 0 := by
        rcases Decidable.em (iBa (aI A) x = 0) with w | w
        · exact w
        · rw [if_neg w] at rk
          split at rk <;> omega
      rw [if_pos b1] at rk
      have b2 : iBa (aI A) i ≠ 0 := by
        intro w
        rw [if_pos w] at rk
        omega
      by_cases w : mvR q (R.take m ++ i :: c) = 0
      · have iv : invR (aI A) q (R.take m ++ i :: c) := inv_app (I := aI A) (q := q) (s := i :: c) (Or.inl ⟨z, b2, x, xc, xq, b1⟩) (R.take m)
        have lo := (sp_low (I := aI A) (q := q) _ (fun g hg => hba g (cB.2 g hg)) w).2 iv
        rw [g1, g2, ← Rsp] at lo
        rw [w, decide_eq_true lo]
        rfl
      · rw [decide_eq_true (p := 0 < mvR q (R.take m ++ i :: c)) (by omega), Bool.true_or]
  have := tryG_lex (ok := fun g => (sB (aS A)).contains g) (G := iG (aI A)) (lt := ordLt A q) Rl ⟨Rn, fun g hg => ⟨List.contains_iff_mem.mpr ((Rm g).mp hg), (hs.2 g ((Rm g).mp hg)).1⟩⟩ hm hx (sB (aS A)).length 0 none (by omega) (fun r hr => by cases hr)
  have this : tryG (fun g => (sB (aS A)).contains g) (iG (aI A)) (ordLt A q) (sB (aS A)).length [] none = some R := this
  unfold ordBest
  rw [this]
  rfl
end OBest

