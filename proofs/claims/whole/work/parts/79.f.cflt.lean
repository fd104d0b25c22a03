/-! A fault that is told is never 0 -/
def FO (f : Nat) : Prop := 1 ≤ f ∧ f ≤ 20000
theorem FO.of {ts : List Tok} (hv : TV ts) {k : Nat} (h1 : 1 ≤ k) (h2 : k ≤ 5) : FO (flt k ts) := by
  have := hv.hd.1.2.2.2.2
  unfold FO flt plc
  omega
def FS (P : List Tok → PR) : Prop := ∀ ts, TV ts → ∀ f, P ts = .inl f → FO f
theorem pNum_f {ts : List Tok} (hv : TV ts) {m f : Nat} (h : pNum m ts = .inl f) : FO f := by
  unfold pNum at h
  split at h
  · split at h
    · cases h
    · cases h; exact FO.of hv (by omega) (by omega)
  · cases h; exact FO.of hv (by omega) (by omega)
theorem pExt_f : ∀ (n : Nat) (b i : Bool) (ts : List Tok) (f : Nat), TV ts → pExt n b i ts = .inl f → FO f := by
  intro n
  induction n with
  | zero => intro b i ts f hv h; cases h
  | succ n ih =>
    intro b i ts f hv h
    unfold pExt at h
    split at h
    · rename_i c
      split at h
      · cases h; exact FO.of hv (by omega) (by omega)
      · exact ih _ _ _ _ (Suf.tl hv (by rw [(isWd_k c).1]; decide)).tv h
    · split at h
      · rename_i c
        split at h
        · cases h; exact FO.of hv (by omega) (by omega)
        · exact ih _ _ _ _ (Suf.tl hv (by rw [(isWd_k c).1]; decide)).tv h
      · cases h
theorem FS.join {m : Nat} {sub : List Tok → PR} (hg : Good m sub) (hs : FS sub) {deed : List Tok → Option Nat} (hd : ∀ ts op, deed ts = some op → (hd ts).1 ≠ 0 ∧ 4 ≤ op ∧ op ≤ 10) (n : Nat) : FS (pJoin sub deed n) := by
  have lp : ∀ n cs ts f, TV ts → pLoop sub deed n cs ts = .inl f → FO f := by
    intro n
    induction n with
    | zero => intro cs ts f hv h; cases h
    | succ n ih =>
      intro cs ts f hv h
      unfold pLoop at h
      cases hq : deed ts with
      | none => rw [hq] at h; cases h
      | some op =>
        rw [hq] at h
        have tv := (Suf.tl hv (hd ts op hq).1).tv
        cases hu : sub ts.tail with
        | inl f2 => simp only [hu] at h; cases h; exact hs _ tv _ hu
        | inr y =>
          simp only [hu] at h
          exact ih _ _ _ (hg ts.tail tv y.1 y.2 hu).1.tv h
  intro ts hv f h
  unfold pJoin at h
  cases hu : sub ts with
  | inl f2 => simp only [hu] at h; cases h; exact hs _ hv _ hu
  | inr y =>
    simp only [hu] at h
    exact lp _ _ _ _ (hg ts hv y.1 y.2 hu).1.tv h
theorem FS.all {m : Nat} {part : List Tok → PR} (hg : Good m part) (hs : FS part) : FS (pAll part) := FS.join (((hg.join dMul_k 1000).join dSum_k 1000).join dCmp_k 1) (FS.join ((hg.join dMul_k 1000).join dSum_k 1000) (FS.join (hg.join dMul_k 1000) (FS.join hg hs dMul_k 1000) dSum_k 1000) dCmp_k 1) dAnd_k 1000
theorem FS.part : ∀ k, FS (pPart k) := by
  intro k
  induction k with
  | zero =>
    intro ts hv f h
    unfold pPart at h
    split at h <;> (cases h; exact FO.of hv (by omega) (by omega))
  | succ k ih =>
    intro ts hv f h
    unfold pPart at h
    split at h
    · rename_i c
      have tv := (Suf.tl hv (by rw [(isWd_k c).1]; decide)).tv
      cases hu : pPart k ts.tail with
      | inl f2 => simp only [hu] at h; cases h; exact ih _ tv _ hu
      | inr y => simp only [hu] at h; cases h
    · split at h
      · rename_i c
        have tv := (Suf.tl hv (by rw [(isSg_k c).1]; decide)).tv
        cases hu : pAll (pPart k) ts.tail with
        | inl f2 => simp only [hu] at h; cases h; exact FS.all (goodp k) ih _ tv _ hu
        | inr y =>
          simp only [hu] at h
          split at h
          · cases h
          · cases h
            exact FO.of ((goodp k).all ts.tail tv y.1 y.2 hu).1.tv (by omega) (by omega)
      · split at h
        · cases h
        · cases h; exact FO.of hv (by omega) (by omega)
theorem pLine_f {s : PS} {ts : List Tok} (hv : TV ts) {f : Nat} (h : pLine s ts = .inl f) : FO f := by
  unfold pLine at h
  split at h
  · rename_i c
    have tv := (Suf.tl hv (by rw [(isWd_k c).1]; decide)).tv
    unfold pRoom at h
    split at h
    · cases h; exact FO.of hv (by omega) (by omega)
    · cases h1 : pNum 9 ts.tail with
      | inl f2 => simp only [h1] at h; cases h; exact pNum_f tv h1
      | inr x =>
        simp only [h1] at h
        cases h2 : pNum 1 x.2 with
        | inl f2 => simp only [h2] at h; cases h; exact pNum_f (pNum_ok tv h1).1.tv h2
        | inr y => simp only [h2] at h; cases h
  · split at h
    · rename_i c
      have tv := (Suf.tl hv (by rw [(isWd_k c).1]; decide)).tv
      unfold pGuest at h
      split at h
      · cases h; exact FO.of hv (by omega) (by omega)
      · split at h
        · rename_i c2
          have tv2 := (Suf.tl tv (by rw [c2.1]; decide)).tv
          split at h
          · cases h; exact FO.of tv (by omega) (by omega)
          · split at h
            · rename_i c3
              have tv3 := (Suf.tl tv2 (by rw [(isWd_k c3).1]; decide)).tv
              cases h1 : pNum 99 ts.tail.tail.tail with
              | inl f2 => simp only [h1] at h; cases h; exact pNum_f tv3 h1
              | inr x =>
                simp only [h1] at h
                cases h2 : pExt 3 false false x.2 with
                | inl f2 => simp only [h2] at h; cases h; exact pExt_f _ _ _ _ _ (pNum_ok tv3 h1).1.tv h2
                | inr y => simp only [h2] at h; cases h
            · cases h; exact FO.of tv2 (by omega) (by omega)
        · cases h; exact FO.of tv (by omega) (by omega)
    · split at h
      · rename_i c
        have tv := (Suf.tl hv (by rw [(isWd_k c).1]; decide)).tv
        unfold pRule at h
        split at h
        · cases h; exact FO.of hv (by omega) (by omega)
        · cases h1 : pAll (pPart 5) ts.tail with
          | inl f2 => simp only [h1] at h; cases h; exact FS.all (goodp 5) (FS.part 5) _ tv _ h1
          | inr x => simp only [h1] at h; cases h
      · cases h; exact FO.of hv (by omega) (by omega)
theorem pInn_f : ∀ (n : Nat) (s : PS) (ts : List Tok), PSk s → TV ts → ts.length ≤ 1001 → ∀ f, pInn n s ts = .inl f → FO f := by
  intro n
  induction n with
  | zero => intro s ts hs hv hl f h; cases h
  | succ n ih =>
    intro s ts hs hv hl f h
    unfold pInn at h
    split at h
    · cases h
    · cases hq : pLine s ts with
      | inl f2 => simp only [hq] at h; cases h; exact pLine_f hv hq
      | inr x =>
        simp only [hq] at h
        obtain ⟨a1, a2, a3⟩ := pLine_ok hs hv hl hq
        split at h
        · rename_i c
          have k1 : (hd x.2).1 ≠ 0 := by rw [(isSg_k c).1]; decide
          have l1 := a1.len
          have l2 := (Suf.tl a1.tv k1).len
          exact ih _ _ a2 (Suf.tl a1.tv k1).tv (by omega) f h
        · cases h
          exact FO.of a1.tv (by omega) (by omega)

