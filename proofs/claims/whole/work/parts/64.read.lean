/-! Reading: tokens, and what is read -/
/-- a token: kind (0 end, 1 word, 2 number, 3 sign, 4 none), place, signs -/
abbrev Tok : Type := Nat × Nat × List Nat
def isL (c : Nat) : Bool := decide (97 ≤ c) && decide (c ≤ 122)
def isD (c : Nat) : Bool := decide (48 ≤ c) && decide (c ≤ 57)
def isB (c : Nat) : Bool := decide (c = 10) || decide (c = 32)
def isS (c : Nat) : Bool := decide (c = 40) || decide (c = 41) || decide (c = 59) || decide (c = 61) || decide (c = 60) || decide (c = 43) || decide (c = 45) || decide (c = 42)
def tkz : Nat → Nat → List Nat → List Tok
  | 0, p, _ => [(0, p, [])]
  | n + 1, p, l => match l with
    | [] => [(0, p, [])]
    | c :: cs => if isB c then tkz n (p + 1) cs
      else if isL c then (if ((c :: cs).takeWhile isL).length ≤ 8 then 1 else 4, p, (c :: cs).takeWhile isL) :: tkz n (p + ((c :: cs).takeWhile isL).length) ((c :: cs).drop ((c :: cs).takeWhile isL).length)
      else if isD c then (if ((c :: cs).takeWhile isD).length ≤ 4 then 2 else 4, p, (c :: cs).takeWhile isD) :: tkz n (p + ((c :: cs).takeWhile isD).length) ((c :: cs).drop ((c :: cs).takeWhile isD).length)
      else (if isS c then 3 else 4, p, [c]) :: tkz n (p + 1) cs
def toks (T : List Nat) : List Tok := tkz T.length 0 T
/-- the head of what is left -/
def hd (ts : List Tok) : Tok := ts.headD (0, 0, [])
def plc (ts : List Tok) : Nat := (hd ts).2.1
def isWd (w : List Nat) (ts : List Tok) : Bool := decide ((hd ts).1 = 1) && decide ((hd ts).2.2 = w)
def isSg (c : Nat) (ts : List Tok) : Bool := decide ((hd ts).1 = 3) && decide ((hd ts).2.2 = [c])
def flt (k : Nat) (ts : List Tok) : Nat := k + 16 * plc ts
def wRoom : List Nat := [114, 111, 111, 109]
def wGuest : List Nat := [103, 117, 101, 115, 116]
def wTrunk : List Nat := [116, 114, 117, 110, 107]
def wBath : List Nat := [98, 97, 116, 104]
def wIll : List Nat := [105, 108, 108]
def wRule : List Nat := [114, 117, 108, 101]
def wNot : List Nat := [110, 111, 116]
def wAnd : List Nat := [97, 110, 100]
def wOr : List Nat := [111, 114]
def wHere : List Nat := [104, 101, 114, 101]
def wGap : List Nat := [103, 97, 112]
def wFloors : List Nat := [102, 108, 111, 111, 114, 115]
def wStove : List Nat := [115, 116, 111, 118, 101]
def wMoved : List Nat := [109, 111, 118, 101, 100]
def wdL : List (List Nat) := [wRoom, wGuest, wTrunk, wBath, wIll, wRule, wNot, wAnd, wOr, wHere, wGap, wFloors, wStove, wMoved]
def v10 (w : List Nat) : Nat := w.foldl (fun v c => 10 * v + (c - 48)) 0
def v37 (w : List Nat) : Nat := w.foldl (fun v c => 37 * v + (c - 96)) 0
abbrev PR : Type := Sum Nat (List Cd × List Tok)
def pLoop (sub : List Tok → PR) (deed : List Tok → Option Nat) : Nat → List Cd → List Tok → PR
  | 0, cs, t => .inr (cs, t)
  | n + 1, cs, t => match deed t with
    | none => .inr (cs, t)
    | some op => match sub t.tail with
      | .inl f => .inl f
      | .inr x => pLoop sub deed n (cs ++ x.1 ++ [(op, 0)]) x.2
def pJoin (sub : List Tok → PR) (deed : List Tok → Option Nat) (n : Nat) (ts : List Tok) : PR := match sub ts with
  | .inl f => .inl f
  | .inr x => pLoop sub deed n x.1 x.2
def dMul (ts : List Tok) : Option Nat := if isSg 42 ts then some 6 else none
def dSum (ts : List Tok) : Option Nat := if isSg 43 ts then some 4 else if isSg 45 ts then some 5 else none
def dCmp (ts : List Tok) : Option Nat := if isSg 60 ts then some 7 else if isSg 61 ts then some 8 else none
def dAnd (ts : List Tok) : Option Nat := if isWd wAnd ts then some 9 else if isWd wOr ts then some 10 else none
def pProd (part : List Tok → PR) : List Tok → PR := pJoin part dMul 1000
def pSum (part : List Tok → PR) : List Tok → PR := pJoin (pProd part) dSum 1000
def pTest (part : List Tok → PR) : List Tok → PR := pJoin (pSum part) dCmp 1
def pAll (part : List Tok → PR) : List Tok → PR := pJoin (pTest part) dAnd 1000
/-- the fact that a word names -/
def fctS (ts : List Tok) : Option Nat := if isWd wTrunk ts then some 0 else if isWd wBath ts then some 1 else if isWd wIll ts then some 2 else if isWd wHere ts then some 3 else if isWd wGap ts then some 4 else if isWd wFloors ts then some 5 else if isWd wStove ts then some 6 else if isWd wMoved ts then some 7 else none
def atomS (ts : List Tok) : Option Cd := if (hd ts).1 = 2 then some (1, v10 (hd ts).2.2) else match fctS ts with
  | some k => some (2, k)
  | none => none
def pPart : Nat → List Tok → PR
  | 0 => fun ts => if isWd wNot ts || isSg 40 ts || (atomS ts).isSome then .inl (flt 5 ts) else .inl (flt 1 ts)
  | d + 1 => fun ts => if isWd wNot ts then (match pPart d ts.tail with
      | .inl f => .inl f
      | .inr x => .inr (x.1 ++ [(3, 0)], x.2))
    else if isSg 40 ts then (match pAll (pPart d) ts.tail with
      | .inl f => .inl f
      | .inr x => if isSg 41 x.2 then .inr (x.1, x.2.tail) else .inl (flt 1 x.2))
    else match atomS ts with
      | some c => .inr ([c], ts.tail)
      | none => .inl (flt 1 ts)
/-- rooms; guests (name, trunk, bath, ill); rules -/
abbrev PS : Type := List (Nat × Nat) × List (List Nat × Nat × Bool × Bool) × List (List Cd)
def pNum (m : Nat) (ts : List Tok) : Sum Nat (Nat × List Tok) := if (hd ts).1 = 2 then (if v10 (hd ts).2.2 ≤ m then .inr (v10 (hd ts).2.2, ts.tail) else .inl (flt 4 ts)) else .inl (flt 1 ts)
def pRoom (s : PS) (ts : List Tok) : Sum Nat (PS × List Tok) := if s.1.length = 10 then .inl (flt 5 ts) else match pNum 9 ts.tail with
  | .inl f => .inl f
  | .inr x => match pNum 1 x.2 with
    | .inl f => .inl f
    | .inr y => .inr ((s.1 ++ [(x.1, y.1)], s.2), y.2)
def pExt : Nat → Bool → Bool → List Tok → Sum Nat ((Bool × Bool) × List Tok)
  | 0, b, i, ts => .inr ((b, i), ts)
  | n + 1, b, i, ts => if isWd wBath ts then (if b then .inl (flt 3 ts) else pExt n true i ts.tail) else if isWd wIll ts then (if i then .inl (flt 3 ts) else pExt n b true ts.tail) else .inr ((b, i), ts)
def isRes (w : List Nat) : Bool := (wdL.take 9).contains w
def pGuest (s : PS) (ts : List Tok) : Sum Nat (PS × List Tok) := if s.2.1.length = 10 then .inl (flt 5 ts)
  else if (hd ts.tail).1 = 1 ∧ isRes (hd ts.tail).2.2 = false then (if (s.2.1.map (·.1)).contains (hd ts.tail).2.2 then .inl (flt 3 ts.tail)
    else if isWd wTrunk ts.tail.tail then (match pNum 99 ts.tail.tail.tail with
      | .inl f => .inl f
      | .inr x => match pExt 3 false false x.2 with
        | .inl f => .inl f
        | .inr y => .inr ((s.1, s.2.1 ++ [((hd ts.tail).2.2, x.1, y.1.1, y.1.2)], s.2.2), y.2))
    else .inl (flt 1 ts.tail.tail))
  else .inl (flt 1 ts.tail)
def pRule (s : PS) (ts : List Tok) : Sum Nat (PS × List Tok) := if s.2.2.length = 4 then .inl (flt 5 ts) else match pAll (pPart 5) ts.tail with
  | .inl f => .inl f
  | .inr x => .inr ((s.1, s.2.1, s.2.2 ++ [x.1]), x.2)
def pLine (s : PS) (ts : List Tok) : Sum Nat (PS × List Tok) := if isWd wRoom ts then pRoom s ts else if isWd wGuest ts then pGuest s ts else if isWd wRule ts then pRule s ts else .inl (flt 1 ts)
def pInn : Nat → PS → List Tok → Sum Nat PS
  | 0, s, _ => .inr s
  | n + 1, s, ts => if (hd ts).1 = 0 then .inr s else match pLine s ts with
    | .inl f => .inl f
    | .inr x => if isSg 59 x.2 then pInn n x.1 x.2.tail else .inl (flt 1 x.2)
def psI (s : PS) : IA := ((s.1.length, s.2.1.length, s.2.2.length), fun r => (s.1.getD r (0, 0)).1, fun r => (s.1.getD r (0, 0)).2, fun g => (s.2.1.getD g ([], 0, false, false)).2.1, fun g => if (s.2.1.getD g ([], 0, false, false)).2.2.1 then 1 else 0, fun g => if (s.2.1.getD g ([], 0, false, false)).2.2.2 then 1 else 0, fun k => s.2.2.getD k [])
/-! what is left is always an end of the whole, with the end-token last -/
def tkOk (x : Tok) : Prop := x.1 ≤ 4 ∧ (x.1 = 1 → x.2.2.length ≤ 8 ∧ x.2.2 ≠ [] ∧ ∀ c, c ∈ x.2.2 → 97 ≤ c ∧ c ≤ 122) ∧ (x.1 = 2 → x.2.2.length ≤ 4 ∧ ∀ c, c ∈ x.2.2 → 48 ≤ c ∧ c ≤ 57) ∧ (x.1 = 3 → ∃ c, x.2.2 = [c] ∧ isS c = true) ∧ x.2.1 ≤ 1000
def TV (ts : List Tok) : Prop := ∃ b e, ts = b ++ [e] ∧ e.1 = 0 ∧ (∀ x, x ∈ b → x.1 ≠ 0) ∧ ∀ x, x ∈ ts → tkOk x
theorem TV.tl {ts : List Tok} (h : TV ts) (hk : (hd ts).1 ≠ 0) : ∃ x, ts = x :: ts.tail ∧ x.1 ≠ 0 ∧ TV ts.tail ∧ hd ts = x := by
  obtain ⟨b, e, rfl, he, hb, hw⟩ := h
  match b, hb, hk, hw with
  | [], _, hk, _ => exact absurd he hk
  | x :: b, hb, _, hw => exact ⟨x, rfl, hb x (List.mem_cons_self ..), ⟨b, e, rfl, he, fun y hy => hb y (List.mem_cons_of_mem _ hy), fun y hy => hw y (List.mem_cons_of_mem _ hy)⟩, rfl⟩
theorem TV.hd {ts : List Tok} (h : TV ts) : tkOk (hd ts) ∧ ts = hd ts :: ts.tail := by
  obtain ⟨b, e, rfl, he, hb, hw⟩ := h
  match b, hw with
  | [], hw => exact ⟨hw _ (List.mem_singleton.mpr rfl), rfl⟩
  | x :: b, hw => exact ⟨hw _ (List.mem_cons_self ..), rfl⟩
theorem v10_lt : ∀ (w : List Nat) (v n : Nat), v < 10 ^ n → (∀ c, c ∈ w → 48 ≤ c ∧ c ≤ 57) → w.foldl (fun v c => 10 * v + (c - 48)) v < 10 ^ (n + w.length) := by
  intro w
  induction w with
  | nil => intro v n h _; exact h
  | cons c w ih =>
    intro v n h hc
    have h1 := hc c (List.mem_cons_self ..)
    rw [List.foldl_cons, List.length_cons, show n + (w.length + 1) = n + 1 + w.length by omega]
    refine ih _ _ ?_ (fun x hx => hc x (List.mem_cons_of_mem _ hx))
    rw [Nat.pow_succ]
    omega
theorem tkOk.num {x : Tok} (h : tkOk x) (hk : x.1 = 2) : v10 x.2.2 < 10000 := by
  have h1 := h.2.2.1 hk
  have h2 := v10_lt x.2.2 0 0 (by decide) h1.2
  exact Nat.lt_of_lt_of_le h2 (Nat.pow_le_pow_right (n := 10) (by omega) (j := 4) (by omega))
theorem isWd_k {w : List Nat} {ts : List Tok} (h : isWd w ts = true) : (hd ts).1 = 1 ∧ (hd ts).2.2 = w := by
  unfold isWd at h
  simpa using h
theorem isSg_k {c : Nat} {ts : List Tok} (h : isSg c ts = true) : (hd ts).1 = 3 ∧ (hd ts).2.2 = [c] := by
  unfold isSg at h
  simpa using h
/-- a reading takes n tokens at least, and no more codes than tokens -/
def Suf (n : Nat) (ts t : List Tok) : Prop := ∃ k, n ≤ k ∧ t = ts.drop k ∧ TV t ∧ k < ts.length
theorem Suf.rf {ts : List Tok} (h : TV ts) : Suf 0 ts ts := by
  refine ⟨0, Nat.le_refl _, rfl, h, ?_⟩
  obtain ⟨b, e, rfl, _⟩ := h
  rw [List.length_append]
  show 0 < _ + 1
  omega
theorem Suf.tl {ts : List Tok} (h : TV ts) (hk : (hd ts).1 ≠ 0) : Suf 1 ts ts.tail := by
  obtain ⟨x, e, _, ht, _⟩ := h.tl hk
  refine ⟨1, Nat.le_refl _, by rw [List.drop_one], ht, ?_⟩
  obtain ⟨b, z, e2, _⟩ := ht
  rw [e, e2, List.length_cons, List.length_append]
  show 1 < _ + 1 + 1
  omega
theorem Suf.tr {n m : Nat} {ts t u : List Tok} (h1 : Suf n ts t) (h2 : Suf m t u) : Suf (n + m) ts u := by
  obtain ⟨k, a1, a2, a3, a4⟩ := h1
  obtain ⟨j, b1, b2, b3, b4⟩ := h2
  subst a2
  rw [List.length_drop] at b4
  exact ⟨k + j, by omega, by rw [b2, List.drop_drop], b3, by omega⟩
theorem Suf.le {n m : Nat} {ts t : List Tok} (h : Suf n ts t) (hm : m ≤ n) : Suf m ts t := by
  obtain ⟨k, a1, a2, a3, a4⟩ := h
  exact ⟨k, by omega, a2, a3, a4⟩
theorem Suf.tv {n : Nat} {ts t : List Tok} (h : Suf n ts t) : TV t := by
  obtain ⟨k, a1, a2, a3, a4⟩ := h
  exact a3
theorem Suf.len {n : Nat} {ts t : List Tok} (h : Suf n ts t) : t.length + n ≤ ts.length := by
  obtain ⟨k, a1, a2, a3, a4⟩ := h
  rw [a2, List.length_drop]
  omega
/-- what a reading of a part of a rule gives -/
def Good (m : Nat) (sub : List Tok → PR) : Prop := ∀ ts, TV ts → ∀ cs t, sub ts = .inr (cs, t) → Suf 1 ts t ∧ cs.length + t.length ≤ ts.length ∧ ∀ d, d + m ≤ 32 → depL d cs = some (d + 1)
theorem depL_app : ∀ (a b : List Cd) (d : Nat), depL d (a ++ b) = (depL d a).bind (fun d' => depL d' b) := by
  intro a
  induction a with
  | nil => intro b d; rfl
  | cons c a ih =>
    intro b d
    show (match depS d c with
      | some d' => depL d' (a ++ b)
      | none => none) = Option.bind (match depS d c with
      | some d' => depL d' a
      | none => none) (fun d' => depL d' b)
    cases depS d c with
    | none => rfl
    | some d' => exact ih b d'
theorem dep_op {d op : Nat} (h1 : 4 ≤ op) (h2 : op ≤ 10) (hd : 2 ≤ d) : depL d [(op, 0)] = some (d - 1) := by
  have : depS d (op, 0) = some (d - 1) := by
    unfold depS
    rw [if_neg (by show ¬ (op = 1 ∧ 0 < 10000 ∨ op = 2 ∧ 0 < 8); omega), if_neg (by show ¬ op = 3; omega), if_pos ⟨h1, h2⟩, if_pos hd]
  unfold depL
  rw [this]
  rfl
theorem Good.loop {m : Nat} {sub : List Tok → PR} (hs : Good m sub) {deed : List Tok → Option Nat} (hd : ∀ ts op, deed ts = some op → (hd ts).1 ≠ 0 ∧ 4 ≤ op ∧ op ≤ 10) : ∀ n cs ts, TV ts → ∀ cs' t, pLoop sub deed n cs ts = .inr (cs', t) → Suf 0 ts t ∧ cs'.length + t.length ≤ cs.length + ts.length ∧ ∀ d, d + (m + 1) ≤ 32 → depL d cs = some (d + 1) → depL d cs' = some (d + 1) := by
  intro n
  induction n with
  | zero =>
    intro cs ts hv cs' t h
    cases h
    exact ⟨Suf.rf hv, Nat.le_refl _, fun d _ h => h⟩
  | succ n ih =>
    intro cs ts hv cs' t h
    unfold pLoop at h
    cases hq : deed ts with
    | none =>
      rw [hq] at h
      cases h
      exact ⟨Suf.rf hv, Nat.le_refl _, fun d _ h => h⟩
    | some op =>
      rw [hq] at h
      obtain ⟨k1, k2, k3⟩ := hd ts op hq
      obtain ⟨x, ex, _, hv1, _⟩ := hv.tl k1
      cases hu : sub ts.tail with
      | inl f => simp only [hu] at h; cases h
      | inr y =>
        simp only [hu] at h
        obtain ⟨a1, a2, a3⟩ := hs ts.tail hv1 y.1 y.2 hu
        obtain ⟨b1, b2, b3⟩ := ih _ _ a1.tv cs' t h
        have l1 : ts.length = ts.tail.length + 1 := by
          conv => lhs; rw [ex]
          rfl
        refine ⟨(((Suf.tl hv k1).tr a1).tr b1).le (by omega), ?_, fun d h1 h2 => ?_⟩
        · simp only [List.length_append, List.length_singleton] at b2
          omega
        · refine b3 d h1 ?_
          rw [depL_app, depL_app, h2]
          show Option.bind (depL (d + 1) y.1) _ = _
          rw [a3 (d + 1) (by omega)]
          show depL (d + 1 + 1) [(op, 0)] = _
          rw [dep_op k2 k3 (by omega)]
          rfl
theorem Good.join {m : Nat} {sub : List Tok → PR} (hs : Good m sub) {deed : List Tok → Option Nat} (hd : ∀ ts op, deed ts = some op → (hd ts).1 ≠ 0 ∧ 4 ≤ op ∧ op ≤ 10) (n : Nat) : Good (m + 1) (pJoin sub deed n) := by
  intro ts hv cs t h
  unfold pJoin at h
  cases hu : sub ts with
  | inl f => simp only [hu] at h; cases h
  | inr y =>
    simp only [hu] at h
    obtain ⟨a1, a2, a3⟩ := hs ts hv y.1 y.2 hu
    obtain ⟨b1, b2, b3⟩ := hs.loop hd n _ _ a1.tv cs t h
    exact ⟨(a1.tr b1).le (by omega), by omega, fun d h1 => b3 d h1 (a3 d (by omega))⟩
theorem dMul_k : ∀ ts op, dMul ts = some op → (hd ts).1 ≠ 0 ∧ 4 ≤ op ∧ op ≤ 10 := by
  intro ts op h
  unfold dMul at h
  split at h
  · rename_i q
    cases h
    rw [(isSg_k q).1]
    exact ⟨by decide, by decide, by decide⟩
  · cases h
theorem dSum_k : ∀ ts op, dSum ts = some op → (hd ts).1 ≠ 0 ∧ 4 ≤ op ∧ op ≤ 10 := by
  intro ts op h
  unfold dSum at h
  split at h
  · rename_i q
    cases h
    rw [(isSg_k q).1]
    exact ⟨by decide, by decide, by decide⟩
  · split at h
    · rename_i q
      cases h
      rw [(isSg_k q).1]
      exact ⟨by decide, by decide, by decide⟩
    · cases h
theorem dCmp_k : ∀ ts op, dCmp ts = some op → (hd ts).1 ≠ 0 ∧ 4 ≤ op ∧ op ≤ 10 := by
  intro ts op h
  unfold dCmp at h
  split at h
  · rename_i q
    cases h
    rw [(isSg_k q).1]
    exact ⟨by decide, by decide, by decide⟩
  · split at h
    · rename_i q
      cases h
      rw [(isSg_k q).1]
      exact ⟨by decide, by decide, by decide⟩
    · cases h
theorem dAnd_k : ∀ ts op, dAnd ts = some op → (hd ts).1 ≠ 0 ∧ 4 ≤ op ∧ op ≤ 10 := by
  intro ts op h
  unfold dAnd at h
  split at h
  · rename_i q
    cases h
    rw [(isWd_k q).1]
    exact ⟨by decide, by decide, by decide⟩
  · split at h
    · rename_i q
      cases h
      rw [(isWd_k q).1]
      exact ⟨by decide, by decide, by decide⟩
    · cases h
theorem Good.all {m : Nat} {part : List Tok → PR} (hs : Good m part) : Good (m + 4) (pAll part) := (((hs.join dMul_k 1000).join dSum_k 1000).join dCmp_k 1).join dAnd_k 1000
theorem fct_k {ts : List Tok} {k : Nat} (h : fctS ts = some k) : (hd ts).1 = 1 ∧ k < 8 := by
  unfold fctS at h
  repeat (first | (split at h; · rename_i q; cases h; exact ⟨(isWd_k q).1, by decide⟩) | cases h)
theorem atom_k {ts : List Tok} (hv : TV ts) {c : Cd} (h : atomS ts = some c) : (hd ts).1 ≠ 0 ∧ ((c.1 = 1 ∧ c.2 < 10000) ∨ (c.1 = 2 ∧ c.2 < 8)) := by
  unfold atomS at h
  split at h
  · rename_i q
    cases h
    exact ⟨by rw [q]; decide, Or.inl ⟨rfl, hv.hd.1.num q⟩⟩
  · split at h
    · rename_i k hk
      cases h
      have := fct_k hk
      exact ⟨by rw [this.1]; decide, Or.inr ⟨rfl, this.2⟩⟩
    · cases h
theorem dep_at {d : Nat} {c : Cd} (h : (c.1 = 1 ∧ c.2 < 10000) ∨ (c.1 = 2 ∧ c.2 < 8)) (hd : d < 32) : depL d [c] = some (d + 1) := by
  have : depS d c = some (d + 1) := by
    unfold depS
    rw [if_pos h, if_pos hd]
  show (match depS d c with
    | some d' => depL d' []
    | none => none) = _
  rw [this]
  rfl
theorem dep_not {d : Nat} (hd : 1 ≤ d) : depL d [(3, 0)] = some d := by
  have : depS d (3, 0) = some d := by
    unfold depS
    rw [if_neg (by decide), if_pos rfl, if_pos hd]
  show (match depS d (3, 0) with
    | some d' => depL d' []
    | none => none) = _
  rw [this]
  rfl
theorem Good.up {m n : Nat} {sub : List Tok → PR} (hs : Good m sub) (h : m ≤ n) : Good n sub := by
  intro ts hv cs t hq
  obtain ⟨a, b, c⟩ := hs ts hv cs t hq
  exact ⟨a, b, fun d hd => c d (by omega)⟩
theorem Good.part : ∀ k, Good (4 * k + 1) (pPart (k + 1)) := by
  have z : Good 0 (pPart 0) := by
    intro ts hv cs t h
    unfold pPart at h
    split at h <;> cases h
  have st : ∀ m k, Good m (pPart k) → Good (m + 4) (pAll (pPart k)) → ∀ n, m + 4 ≤ n → 1 ≤ n → Good n (pPart (k + 1)) := by
    intro m k h1 h2 n hn1 hn2 ts hv cs t h
    unfold pPart at h
    split at h
    · rename_i q
      have k1 : (hd ts).1 ≠ 0 := by rw [(isWd_k q).1]; decide
      obtain ⟨x, ex, _, hv1, _⟩ := hv.tl k1
      cases hu : pPart k ts.tail with
      | inl f => simp only [hu] at h; cases h
      | inr y =>
        simp only [hu] at h
        cases h
        obtain ⟨a1, a2, a3⟩ := h1 ts.tail hv1 y.1 y.2 hu
        have l1 : ts.length = ts.tail.length + 1 := by
          conv => lhs; rw [ex]
          rfl
        refine ⟨((Suf.tl hv k1).tr a1).le (by omega), ?_, fun d hd => ?_⟩
        · rw [List.length_append]
          show _ + 1 + _ ≤ _
          omega
        · rw [depL_app, a3 d (by omega)]
          exact dep_not (d := d + 1) (by omega)
    · split at h
      · rename_i q
        have k1 : (hd ts).1 ≠ 0 := by rw [(isSg_k q).1]; decide
        obtain ⟨x, ex, _, hv1, _⟩ := hv.tl k1
        cases hu : pAll (pPart k) ts.tail with
        | inl f => simp only [hu] at h; cases h
        | inr y =>
          simp only [hu] at h
          split at h
          · rename_i q2
            cases h
            obtain ⟨a1, a2, a3⟩ := h2 ts.tail hv1 y.1 y.2 hu
            have k2 : (hd y.2).1 ≠ 0 := by rw [(isSg_k q2).1]; decide
            have l1 : ts.length = ts.tail.length + 1 := by
              conv => lhs; rw [ex]
              rfl
            have l2 := (Suf.tl a1.tv k2).len
            refine ⟨(((Suf.tl hv k1).tr a1).tr (Suf.tl a1.tv k2)).le (by omega), by omega, fun d hd => a3 d (by omega)⟩
          · cases h
      · split at h
        · rename_i c hc
          cases h
          obtain ⟨k1, k2⟩ := atom_k hv hc
          have l1 := (Suf.tl hv k1).len
          exact ⟨Suf.tl hv k1, by show 1 + _ ≤ _; omega, fun d hd => dep_at k2 (by omega)⟩
        · cases h
  intro k
  induction k with
  | zero =>
    intro ts hv cs t h
    -- within the last depth only atoms can be read
    unfold pPart at h
    split at h
    · cases hu : pPart 0 ts.tail with
      | inl f => simp only [hu] at h; cases h
      | inr y =>
        exfalso
        unfold pPart at hu
        split at hu <;> cases hu
    · split at h
      · cases hu : pAll (pPart 0) ts.tail with
        | inl f => simp only [hu] at h; cases h
        | inr y =>
          exfalso
          unfold pAll pTest pSum pProd pJoin at hu
          unfold pPart at hu
          split at hu
          · rename_i f hf
            cases hu
          · rename_i y1 h1
            split at h1
            · cases h1
            · rename_i y2 h2
              split at h2
              · cases h2
              · rename_i y3 h3
                split at h3
                · cases h3
                · rename_i y4 h4
                  split at h4 <;> cases h4
      · split at h
        · rename_i c hc
          cases h
          obtain ⟨k1, k2⟩ := atom_k hv hc
          have l1 := (Suf.tl hv k1).len
          exact ⟨Suf.tl hv k1, by show 1 + _ ≤ _; omega, fun d hd => dep_at k2 (by omega)⟩
        · cases h
  | succ k ih => exact st _ (k + 1) ih ih.all _ (by omega) (by omega)
theorem Good.rule : Good 21 (pAll (pPart 5)) := (Good.part 4).all

