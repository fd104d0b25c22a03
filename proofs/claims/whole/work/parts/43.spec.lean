/-! What is meant: an inn, a house, what comes and leaves do. -/
abbrev Cd : Type := Nat × Nat
/-- rooms, guests, rules; floors, stoves; trunks, baths, ills; codes of the rules -/
abbrev IA : Type := (Nat × Nat × Nat) × (Nat → Nat) × (Nat → Nat) × (Nat → Nat) × (Nat → Nat) × (Nat → Nat) × (Nat → List Cd)
def iR (I : IA) : Nat := I.1.1
def iG (I : IA) : Nat := I.1.2.1
def iK (I : IA) : Nat := I.1.2.2
def iFl (I : IA) : Nat → Nat := I.2.1
def iSt (I : IA) : Nat → Nat := I.2.2.1
def iTr (I : IA) : Nat → Nat := I.2.2.2.1
def iBa (I : IA) : Nat → Nat := I.2.2.2.2.1
def iIl (I : IA) : Nat → Nat := I.2.2.2.2.2.1
def iCd (I : IA) : Nat → List Cd := I.2.2.2.2.2.2
/-- a going: guest, from, to, begin, end -/
abbrev Go : Type := Nat × Option Nat × Option Nat × Nat × Nat
/-- who is where; moves, steps of each; who came ever; steps, spilt, moves, minutes, clock; the goings -/
abbrev HA : Type := (Nat → Option Nat) × (Nat → Nat) × (Nat → Nat) × (Nat → Bool) × (Nat × Nat × Nat × Nat × Nat) × List Go
def hO (H : HA) : Nat → Option Nat := H.1
def hM (H : HA) : Nat → Nat := H.2.1
def hS (H : HA) : Nat → Nat := H.2.2.1
def hE (H : HA) : Nat → Bool := H.2.2.2.1
def hsT (H : HA) : Nat := H.2.2.2.2.1.1
def hsP (H : HA) : Nat := H.2.2.2.2.1.2.1
def hsM (H : HA) : Nat := H.2.2.2.2.1.2.2.1
def hsN (H : HA) : Nat := H.2.2.2.2.1.2.2.2.1
def hC (H : HA) : Nat := H.2.2.2.2.1.2.2.2.2
def hL (H : HA) : List Go := H.2.2.2.2.2
def h0S : HA := (fun _ => none, fun _ => 0, fun _ => 0, fun _ => false, (0, 0, 0, 0, 0), [])
def hEv (g : Nat) (H : HA) : HA := (hO H, hM H, hS H, fu (hE H) g true, (hsT H, hsP H, hsM H, hsN H, hC H), hL H)
def hCl (m : Nat) (H : HA) : HA := (hO H, hM H, hS H, hE H, (hsT H, hsP H, hsM H, hsN H, if hC H < m then m else hC H), hL H)
def nd (a b : Nat) : Nat := (a - b) + (b - a)
def pI (a : Option Nat) : Nat := match a with
  | none => 0
  | some r => r + 1
def flO (I : IA) (a : Option Nat) : Nat := match a with
  | none => 0
  | some r => iFl I r
def flD (I : IA) (a b : Option Nat) : Nat := nd (flO I a) (flO I b)
def stD (I : IA) (a b : Option Nat) : Nat := nd (pI a) (pI b) + 10 * flD I a b
def miD (I : IA) (g : Nat) (a b : Option Nat) : Nat := 1 + 2 * flD I a b + iTr I g / 10
def bothIn (a b : Option Nat) : Bool := a.isSome && b.isSome
def oPut (o : Nat → Option Nat) (g : Nat) (fr to : Option Nat) : Nat → Option Nat :=
  let o1 := match fr with
    | some r => fu o r none
    | none => o
  match to with
  | some r => fu o1 r (some g)
  | none => o1
def goS (I : IA) (g : Nat) (fr to : Option Nat) (H : HA) : HA :=
  (oPut (hO H) g fr to,
   if bothIn fr to then fu (hM H) g (hM H g + 1) else hM H,
   fu (hS H) g (hS H g + stD I fr to),
   hE H,
   (hsT H + stD I fr to, if bothIn fr to then hsP H + iBa I g else hsP H, if bothIn fr to then hsM H + 1 else hsM H, hsN H + miD I g fr to, hC H + miD I g fr to),
   hL H ++ [(g, fr, to, hC H, hC H + miD I g fr to)])
def fgS (o : Nat → Option Nat) : Nat → Nat → Nat
  | 0, r => r
  | n + 1, r => if o r = none then r else fgS o n (r + 1)
def gapS (I : IA) (H : HA) : Nat := fgS (hO H) (iR I) 0
def shS (I : IA) : Nat → HA → HA
  | 0, H => H
  | r + 1, H => shS I r (goS I ((hO H r).getD 0) (some r) (some (r + 1)) H)
def comeS (I : IA) (g : Nat) (H : HA) : HA := goS I g none (some 0) (shS I (gapS I H) (hEv g H))
def roS (o : Nat → Option Nat) (g : Nat) : Nat → Nat → Option Nat
  | 0, _ => none
  | n + 1, r => if o r = some g then some r else roS o g n (r + 1)
def roomS (I : IA) (H : HA) (g : Nat) : Option Nat := roS (hO H) g (iR I) 0
/-! rules -/
def oneS (p : Prop) [Decidable p] : Int32 := if p then 1 else 0
def bothS (c : Nat) (a b : Int32) : Int32 :=
  if c = 4 then a + b else if c = 5 then a - b else if c = 6 then a * b else if c = 7 then oneS (a < b) else if c = 8 then oneS (a = b) else if c = 9 then oneS (a ≠ 0 ∧ b ≠ 0) else oneS (a ≠ 0 ∨ b ≠ 0)
def stepS (fs : Nat → Int32) (st : List Int32) (c : Cd) : List Int32 :=
  if c.1 = 1 then Int32.ofNat c.2 :: st else if c.1 = 2 then fs c.2 :: st else if c.1 = 3 then (match st with
    | x :: r => oneS (x = 0) :: r
    | [] => []) else (match st with
    | b :: a :: r => bothS c.1 a b :: r
    | _ => st)
def runS (fs : Nat → Int32) (st : List Int32) (cs : List Cd) : List Int32 := cs.foldl (stepS fs) st
/-- how high the pile is behind a code; none: it doesn't fit -/
def depS (d : Nat) (c : Cd) : Option Nat :=
  if c.1 = 1 ∧ c.2 < 10000 ∨ c.1 = 2 ∧ c.2 < 8 then (if d < 32 then some (d + 1) else none) else if c.1 = 3 then (if 1 ≤ d then some d else none) else if 4 ≤ c.1 ∧ c.1 ≤ 10 then (if 2 ≤ d then some (d - 1) else none) else none
def depL : Nat → List Cd → Option Nat
  | d, [] => some d
  | d, c :: cs => match depS d c with
    | some d' => depL d' cs
    | none => none
def factS (I : IA) (mv g here gap : Nat) (k : Nat) : Int32 :=
  if k = 0 then Int32.ofNat (iTr I g) else if k = 1 then Int32.ofNat (iBa I g) else if k = 2 then Int32.ofNat (iIl I g) else if k = 3 then Int32.ofNat here else if k = 4 then Int32.ofNat gap else if k = 5 then Int32.ofNat (flD I (some here) (some gap)) else if k = 6 then Int32.ofNat (iSt I gap) else Int32.ofNat mv
def valS (I : IA) (H : HA) (rule g here gap : Nat) : Int32 := (runS (factS I (hM H g) g here gap) [] (iCd I rule)).headD 0
/-- the best of the n rooms behind the gap, and what it gives -/
def bestS (I : IA) (H : HA) (rule gap : Nat) : Nat → Option Nat × Int32
  | 0 => (none, 0)
  | n + 1 => let b := bestS I H rule gap n
    match hO H (gap + 1 + n) with
    | none => b
    | some g => let v := valS I H rule g (gap + 1 + n) gap
      if b.2 < v then (some (gap + 1 + n), v) else b
def fillS (I : IA) (rule : Nat) : Nat → Nat → HA → HA
  | 0, _, H => H
  | f + 1, gap, H => match (bestS I H rule gap (iR I - (gap + 1))).1 with
    | none => H
    | some r => fillS I rule f r (goS I ((hO H r).getD 0) (some r) (some gap) H)
def leaveS (I : IA) (g : Nat) (rule : Option Nat) (H : HA) : HA :=
  let H1 := goS I g (roomS I H g) none H
  match rule, roomS I H g with
  | some k, some gap => fillS I k (iR I) gap H1
  | _, _ => H1
/-- what came and left: guest, whether it left, minute, rule in use -/
abbrev Ev : Type := Nat × Bool × Nat × Option Nat
def evS (I : IA) (rl : Ev → Option Nat) (H : HA) (e : Ev) : HA := if e.2.1 then leaveS I e.1 (rl e) (hCl e.2.2.1 H) else comeS I e.1 (hCl e.2.2.1 H)
def replay (I : IA) (rl : Ev → Option Nat) (es : List Ev) : HA := es.foldl (evS I rl) h0S
/-- an inn that can be -/
def IOk (I : IA) : Prop := iR I ≤ 10 ∧ iG I ≤ 10 ∧ iK I ≤ 4 ∧ (∀ r, r < iR I → iFl I r ≤ 9 ∧ iSt I r ≤ 1) ∧ (∀ g, g < iG I → iTr I g ≤ 99 ∧ iBa I g ≤ 1 ∧ iIl I g ≤ 1) ∧ (∀ k, k < iK I → depL 0 (iCd I k) = some 1 ∧ (iCd I k).length ≤ 1000)
/-- a house that can be: whoever is in is in one room of the inn, and is a guest -/
def HOk (I : IA) (H : HA) : Prop := ∀ r g, hO H r = some g → r < iR I ∧ g < iG I ∧ ∀ r', hO H r' = some g → r' = r
/-- a place or nobody, as a number -/
def eO (a : Option Nat) : Int32 := match a with
  | none => -1
  | some r => Int32.ofNat r
theorem eO_n : eO none = -1 := rfl
theorem eO_s (r : Nat) : eO (some r) = Int32.ofNat r := rfl
/-- but for the fields of A nothing has changed -/
def Keep (A : List Nat) (M M' : OD) : Prop := ∀ k, k ∉ A → oi M' k = oi M k ∧ ol M' k = ol M k ∧ oa M' k = oa M k ∧ om M' k = om M k ∧ ov M' k = ov M k ∧ oq M' k = oq M k
theorem Keep.rf {A : List Nat} {M : OD} : Keep A M M := fun _ _ => ⟨rfl, rfl, rfl, rfl, rfl, rfl⟩
theorem Keep.tr {A : List Nat} {M M1 M2 : OD} (h1 : Keep A M M1) (h2 : Keep A M1 M2) : Keep A M M2 := by
  intro k hk
  obtain ⟨a1, a2, a3, a4, a5, a6⟩ := h1 k hk
  obtain ⟨b1, b2, b3, b4, b5, b6⟩ := h2 k hk
  exact ⟨b1.trans a1, b2.trans a2, b3.trans a3, b4.trans a4, b5.trans a5, b6.trans a6⟩
theorem Keep.up {A B : List Nat} {M M' : OD} (h : Keep A M M') (hs : ∀ k, k ∈ A → k ∈ B) : Keep B M M' := fun k hk => h k (fun z => hk (hs k z))
theorem Keep.i {A : List Nat} {M M' : OD} (h : Keep A M M') {k : Nat} (hk : k ∉ A) : oi M' k = oi M k := (h k hk).1
theorem Keep.a {A : List Nat} {M M' : OD} (h : Keep A M M') {k : Nat} (hk : k ∉ A) : oa M' k = oa M k := (h k hk).2.2.1
theorem Keep.m {A : List Nat} {M M' : OD} (h : Keep A M M') {k : Nat} (hk : k ∉ A) : om M' k = om M k := (h k hk).2.2.2.1
theorem k_si {A : List Nat} {M : OD} {k : Nat} {v : Int32} (hk : k ∈ A) : Keep A M (si M k v) := by
  intro j hj
  refine ⟨?_, rfl, rfl, rfl, rfl, rfl⟩
  rw [oi_si, if_neg (by intro z; subst z; exact hj hk)]
theorem k_sl {A : List Nat} {M : OD} {k : Nat} {v : Int64} (hk : k ∈ A) : Keep A M (sl M k v) := by
  intro j hj
  refine ⟨rfl, ?_, rfl, rfl, rfl, rfl⟩
  rw [ol_sl, if_neg (by intro z; subst z; exact hj hk)]
theorem k_sa {A : List Nat} {M : OD} {k : Nat} {v : Nat → Int32} (hk : k ∈ A) : Keep A M (sa M k v) := by
  intro j hj
  refine ⟨rfl, rfl, ?_, rfl, rfl, rfl⟩
  rw [oa_sa, if_neg (by intro z; subst z; exact hj hk)]
theorem k_sm {A : List Nat} {M : OD} {k : Nat} {v : Nat → Int64} (hk : k ∈ A) : Keep A M (sm M k v) := by
  intro j hj
  refine ⟨rfl, rfl, rfl, ?_, rfl, rfl⟩
  rw [om_sm, if_neg (by intro z; subst z; exact hj hk)]
theorem k_sv {A : List Nat} {M : OD} {k : Nat} {v : Value} (hk : k ∈ A) : Keep A M (sv M k v) := by
  intro j hj
  refine ⟨rfl, rfl, rfl, rfl, ?_, rfl⟩
  rw [ov_sv, if_neg (by intro z; subst z; exact hj hk)]
/-! the inn as the model has it -/
def cArg (c : Cd) : Int32 := Int32.ofNat c.2
/-- a rule's codes as the model has them, from a place on, with the end behind -/
def RuleM (M : OD) (a : Nat) (cs : List Cd) : Prop := a + cs.length < 1100 ∧ (∀ j c, cs[j]? = some c → oa M 11 (a + j) = Int32.ofNat c.1 ∧ oa M 12 (a + j) = cArg c) ∧ oa M 11 (a + cs.length) = 0
def RepIN (I : IA) (f : Nat → Int32) : Prop := IOk I ∧ f 0 = Int32.ofNat (iR I) ∧ f 1 = Int32.ofNat (iG I) ∧ f 2 = Int32.ofNat (iK I) ∧ (∀ r, r < iR I → f (3 + 2 * r) = Int32.ofNat (iFl I r) ∧ f (4 + 2 * r) = Int32.ofNat (iSt I r)) ∧ ∀ g, g < iG I → f (23 + 3 * g) = Int32.ofNat (iTr I g) ∧ f (24 + 3 * g) = Int32.ofNat (iBa I g) ∧ f (25 + 3 * g) = Int32.ofNat (iIl I g)
def RepIM (I : IA) (M : OD) : Prop := RepIN I (oa M 10) ∧ ∀ k, k < iK I → ∃ a, oa M 10 (53 + k) = Int32.ofNat a ∧ RuleM M a (iCd I k)
def eB (b : Bool) : Int32 := if b then 1 else 0
/-- the house as the model has it -/
def RepHM (H : HA) (M : OD) : Prop := (∀ r, r < 10 → oa M 19 r = eO (hO H r)) ∧ (∀ g, g < 10 → oa M 20 g = Int32.ofNat (hM H g)) ∧ (∀ g, g < 10 → oa M 21 g = Int32.ofNat (hS H g)) ∧ (∀ g, g < 10 → oa M 22 g = eB (hE H g)) ∧ oi M 23 = Int32.ofNat (hsT H) ∧ oi M 24 = Int32.ofNat (hsP H) ∧ oi M 25 = Int32.ofNat (hsM H) ∧ oi M 26 = Int32.ofNat (hsN H) ∧ oi M 27 = Int32.ofNat (hC H) ∧ oi M 28 = Int32.ofNat (hL H).length ∧ ∀ (k : Nat) (x : Go), (hL H)[k]? = some x → oa M 29 (5 * k) = Int32.ofNat x.1 ∧ oa M 29 (5 * k + 1) = eO x.2.1 ∧ oa M 29 (5 * k + 2) = eO x.2.2.1 ∧ oa M 29 (5 * k + 3) = Int32.ofNat x.2.2.2.1 ∧ oa M 29 (5 * k + 4) = Int32.ofNat x.2.2.2.2
abbrev kH : List Nat := [19, 20, 21, 22, 23, 24, 25, 26, 27, 28, 29]
theorem RepIM.kp {A : List Nat} {I : IA} {M M' : OD} (h : RepIM I M) (hk : Keep A M M') (h1 : 10 ∉ A) (h2 : 11 ∉ A) (h3 : 12 ∉ A) : RepIM I M' := by
  unfold RepIM RuleM at *
  rw [hk.a h1, hk.a h2, hk.a h3]
  exact h
theorem k_si2 {A : List Nat} {M X : OD} {k : Nat} {v : Int32} (h : Keep A M X) (hk : k ∈ A) : Keep A M (si X k v) := h.tr (k_si hk)
theorem k_sl2 {A : List Nat} {M X : OD} {k : Nat} {v : Int64} (h : Keep A M X) (hk : k ∈ A) : Keep A M (sl X k v) := h.tr (k_sl hk)
theorem k_sa2 {A : List Nat} {M X : OD} {k : Nat} {v : Nat → Int32} (h : Keep A M X) (hk : k ∈ A) : Keep A M (sa X k v) := h.tr (k_sa hk)
theorem k_sm2 {A : List Nat} {M X : OD} {k : Nat} {v : Nat → Int64} (h : Keep A M X) (hk : k ∈ A) : Keep A M (sm X k v) := h.tr (k_sm hk)
theorem k_sv2 {A : List Nat} {M X : OD} {k : Nat} {v : Value} (h : Keep A M X) (hk : k ∈ A) : Keep A M (sv X k v) := h.tr (k_sv hk)
theorem sa_sa (D : OD) (k : Nat) (f g : Nat → Int32) : sa (sa D k f) k g = sa D k g := by
  unfold sa
  congr 3
  funext j
  simp only [fu_at]
  split <;> rfl
theorem sm_sm (D : OD) (k : Nat) (f g : Nat → Int64) : sm (sm D k f) k g = sm D k g := by
  unfold sm
  congr 4
  funext j
  simp only [fu_at]
  split <;> rfl
theorem si_si (D : OD) (k : Nat) (f g : Int32) : si (si D k f) k g = si D k g := by
  unfold si
  congr 1
  funext j
  simp only [fu_at]
  split <;> rfl
theorem upd_ne {f : Nat → Int32} {k j : Nat} {x : Int32} (h : j ≠ k) : upd f k x j = f j := if_neg h
theorem upd_eq {f : Nat → Int32} {k j : Nat} {x : Int32} (h : j = k) : upd f k x j = x := if_pos h
theorem updL_ne {f : Nat → Int64} {k j : Nat} {x : Int64} (h : j ≠ k) : vp_updL f k x j = f j := if_neg h
theorem updL_eq {f : Nat → Int64} {k j : Nat} {x : Int64} (h : j = k) : vp_updL f k x j = x := if_pos h
theorem fu_ne {α : Type} {f : Nat → α} {k j : Nat} {x : α} (h : j ≠ k) : fu f k x j = f j := if_neg h
theorem fu_eq {α : Type} {f : Nat → α} {k j : Nat} {x : α} (h : j = k) : fu f k x j = x := if_pos h
section HGo
variable (I : IA) (g : Nat) (fr to : Option Nat) (H : HA)
theorem hO_go : hO (goS I g fr to H) = oPut (hO H) g fr to := rfl
theorem hM_go : hM (goS I g fr to H) = if bothIn fr to then fu (hM H) g (hM H g + 1) else hM H := rfl
theorem hS_go : hS (goS I g fr to H) = fu (hS H) g (hS H g + stD I fr to) := rfl
theorem hE_go : hE (goS I g fr to H) = hE H := rfl
theorem hsT_go : hsT (goS I g fr to H) = hsT H + stD I fr to := rfl
theorem hsP_go : hsP (goS I g fr to H) = if bothIn fr to then hsP H + iBa I g else hsP H := rfl
theorem hsM_go : hsM (goS I g fr to H) = if bothIn fr to then hsM H + 1 else hsM H := rfl
theorem hsN_go : hsN (goS I g fr to H) = hsN H + miD I g fr to := rfl
theorem hC_go : hC (goS I g fr to H) = hC H + miD I g fr to := rfl
theorem hL_go : hL (goS I g fr to H) = hL H ++ [(g, fr, to, hC H, hC H + miD I g fr to)] := rfl
end HGo
theorem oPut_nn (o : Nat → Option Nat) (g : Nat) : oPut o g none none = o := rfl
theorem oPut_ns (o : Nat → Option Nat) (g r : Nat) : oPut o g none (some r) = fu o r (some g) := rfl
theorem oPut_sn (o : Nat → Option Nat) (g r : Nat) : oPut o g (some r) none = fu o r none := rfl
theorem oPut_ss (o : Nat → Option Nat) (g r s : Nat) : oPut o g (some r) (some s) = fu (fu o r none) s (some g) := rfl
theorem bi_nn : bothIn none none = false := rfl
theorem bi_ns (r : Nat) : bothIn none (some r) = false := rfl
theorem bi_sn (r : Nat) : bothIn (some r) none = false := rfl
theorem bi_ss (r s : Nat) : bothIn (some r) (some s) = true := rfl
theorem sa_self (D : OD) (k : Nat) : sa D k (oa D k) = D := by
  unfold sa oa
  have : fu D.2.2.1 k (D.2.2.1 k) = D.2.2.1 := by
    funext j
    rw [fu_at]
    split
    · rename_i q; rw [q]
    · rfl
  rw [this]
theorem sm_self (D : OD) (k : Nat) : sm D k (om D k) = D := by
  unfold sm om
  have : fu D.2.2.2.1 k (D.2.2.2.1 k) = D.2.2.2.1 := by
    funext j
    rw [fu_at]
    split
    · rename_i q; rw [q]
    · rfl
  rw [this]
theorem si_self (D : OD) (k : Nat) : si D k (oi D k) = D := by
  unfold si oi
  have : fu D.1 k (D.1 k) = D.1 := by
    funext j
    rw [fu_at]
    split
    · rename_i q; rw [q]
    · rfl
  rw [this]

