/-! The component: as it begins -/
def A0A : AA := (I0A, [], S0A, fun _ => none)
section CInit3
variable {N : Nat}
theorem pf11 {k : Nat} {v : Value} {fs : List Value} {L : PH} (hk : k < fs.length) : pfV 11 k 0 v (.inr (11, fs) :: L) = some (.inr (11, fs.set k v) :: L) := pfV_a0 (h := []) hk
theorem ob11 {β : Type} {c k : Nat} {n0 fs : List Value} {S : Sp} {D : OD} {f : Nat → Nat → PH → Option PH} {L : PH} {F : PH → Option β} (hi : ∀ h0 : PH, f N h0.length (h0 ++ [.inr (c, n0)]) = some (h0 ++ blk S h0.length D)) (hk : k < fs.length) : (gc (nwO c n0 (.inr (11, fs) :: L)) fun zr zh => gb (f N zr zh) fun zh3 => gb (pfV 11 k 0 (.ref zr) zh3) F) = F (.inr (11, fs.set k (.ref (L.length + 1))) :: (L ++ blk S (L.length + 1) D)) := by
  have := hi (.inr (11, fs) :: L)
  unfold nwO
  rw [gc_s, this, gb_s, List.cons_append, pf11 hk, gb_s]
  rfl
theorem al11 {β : Type} {n k : Nat} {fs : List Value} {L : PH} {F : PH → Option β} (hk : k < fs.length) : (gc (nwA 0 n (.inr (11, fs) :: L)) fun zr zh => gb (pfV 11 k 0 (.ref zr) zh) F) = F (.inr (11, fs.set k (.ref (L.length + 1))) :: (L ++ [.inl (0, n, .inl (fun _ => 0))])) := by
  have := nwA_a (t := 0) (n := n) (h := []) (L := .inr (11, fs) :: L)
  rw [List.nil_append] at this
  rw [this, gc_s, List.nil_append, List.cons_append, pf11 hk, gb_s, List.length_nil, Nat.zero_add]
  rfl
theorem aq11 {β : Type} {n k : Nat} {fs : List Value} {L : PH} {F : PH → Option β} (hk : k < fs.length) : (gc (nwA 5 n (.inr (11, fs) :: L)) fun zr zh => gb (pfV 11 k 0 (.ref zr) zh) F) = F (.inr (11, fs.set k (.ref (L.length + 1))) :: (L ++ [.inl (5, n, .inr (.inr (.inr (.inr (fun _ => none)))))])) := by
  have := nwA_a (t := 5) (n := n) (h := []) (L := .inr (11, fs) :: L)
  rw [List.nil_append] at this
  rw [this, gc_s, List.nil_append, List.cons_append, pf11 hk, gb_s, List.length_nil, Nat.zero_add]
  rfl
theorem gf11 {k r : Nat} {fs : List Value} {L : PH} (hk : fs[k]? = some (.ref r)) : gfR 11 k 0 (.inr (11, fs) :: L) = some r := by
  unfold gfR
  show (match (if 11 = 11 then fs[k]? else none) with
    | some (.ref a) => some a
    | _ => none) = some r
  rw [if_pos rfl, hk]
end CInit3

