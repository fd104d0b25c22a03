/-! The model: as it begins -/
def wW : Nat → Int64 := vp_updL (vp_updL (vp_updL (vp_updL (vp_updL (vp_updL (vp_updL (vp_updL (vp_updL (vp_updL (vp_updL (vp_updL (vp_updL (vp_updL (fun _ => 0) 0 932857) 1 14190408) 2 38424252) 3 103423) 4 12777) 5 940952) 6 19741) 7 1891) 8 573) 9 412740) 10 9636) 11 439334689) 12 36643473) 13 25154195
section MInit
variable {N : Nat} {h : PH}
theorem al_B {β : Type} {n ci k : Nat} {fs : List Value} {L : PH} {F : PH → Option β} (hk : k < fs.length) : (gc (nwA 3 n (h ++ .inr (ci, fs) :: L)) fun zr zh => gb (pfV ci k h.length (.ref zr) zh) F) = F (h ++ .inr (ci, fs.set k (.ref (h.length + (L.length + 1)))) :: (L ++ [.inl (3, n, .inl (fun _ => 0))])) := by
  rw [nwA_a, gc_s, List.cons_append, pfV_a0 hk, gb_s]
  rfl
theorem asL_z {H : PH} {n k : Nat} {i : Int32} {f : Nat → Int64} {v : Int64} (hi : i = Int32.ofNat k) (hk : k < n) (hn : n < 1000) : asL 1 H.length i v (H ++ [.inl (1, n, .inr (.inl f))]) = some (H ++ [.inl (1, n, .inr (.inl (vp_updL f k v)))]) := by
  subst hi
  have ix := ixn (k := k) (n := n) hk (by omega)
  unfold asL
  rw [List.getElem?_append_right (Nat.le_refl _), Nat.sub_self]
  show (if 1 = 1 ∧ ¬ (Int32.ofNat k < 0 ∨ n ≤ (Int32.ofNat k).toNatClampNeg) then some (((H ++ [.inl (1, n, .inr (.inl f))]) : PH).set H.length (.inl (1, n, .inr (.inl (vp_updL f (Int32.ofNat k).toNatClampNeg v))))) else none) = _
  rw [if_pos ⟨rfl, ix⟩, i_okc (by omega), List.set_append_right _ _ (Nat.le_refl _), Nat.sub_self]
  rfl
theorem al_W {β : Type} {k : Nat} {fs : List Value} {L : PH} {F : PH → Option β} (hk : k < fs.length) : (gc (nwA 1 14 (h ++ .inr (12, fs) :: L)) fun zr14 zh13 => gb (asL 1 zr14 0 932857 zh13) fun zh15 => gb (asL 1 zr14 1 14190408 zh15) fun zh16 => gb (asL 1 zr14 2 38424252 zh16) fun zh17 => gb (asL 1 zr14 3 103423 zh17) fun zh18 => gb (asL 1 zr14 4 12777 zh18) fun zh19 => gb (asL 1 zr14 5 940952 zh19) fun zh20 => gb (asL 1 zr14 6 19741 zh20) fun zh21 => gb (asL 1 zr14 7 1891 zh21) fun zh22 => gb (asL 1 zr14 8 573 zh22) fun zh23 => gb (asL 1 zr14 9 412740 zh23) fun zh24 => gb (asL 1 zr14 10 9636 zh24) fun zh25 => gb (asL 1 zr14 11 439334689 zh25) fun zh26 => gb (asL 1 zr14 12 36643473 zh26) fun zh27 => gb (asL 1 zr14 13 25154195 zh27) fun zh28 => gb (pfV 12 k h.length (.ref zr14) zh28) F) = F (h ++ .inr (12, fs.set k (.ref (h.length + (L.length + 1)))) :: (L ++ [.inl (1, 14, .inr (.inl wW))])) := by
  have e : nwA 1 14 (h ++ .inr (12, fs) :: L) = some ((h ++ .inr (12, fs) :: L).length, (h ++ .inr (12, fs) :: L) ++ [.inl (1, 14, .inr (.inl (fun _ => 0)))]) := rfl
  rw [e, gc_s, asL_z (k := 0) (i := 0) rfl (by decide) (by decide), gb_s, asL_z (k := 1) (i := 1) rfl (by decide) (by decide), gb_s, asL_z (k := 2) (i := 2) rfl (by decide) (by decide), gb_s, asL_z (k := 3) (i := 3) rfl (by decide) (by decide), gb_s, asL_z (k := 4) (i := 4) rfl (by decide) (by decide), gb_s, asL_z (k := 5) (i := 5) rfl (by decide) (by decide), gb_s, asL_z (k := 6) (i := 6) rfl (by decide) (by decide), gb_s, asL_z (k := 7) (i := 7) rfl (by decide) (by decide), gb_s, asL_z (k := 8) (i := 8) rfl (by decide) (by decide), gb_s, asL_z (k := 9) (i := 9) rfl (by decide) (by decide), gb_s, asL_z (k := 10) (i := 10) rfl (by decide) (by decide), gb_s, asL_z (k := 11) (i := 11) rfl (by decide) (by decide), gb_s, asL_z (k := 12) (i := 12) rfl (by decide) (by decide), gb_s, asL_z (k := 13) (i := 13) rfl (by decide) (by decide), gb_s, List.append_assoc, List.cons_append, pfV_a0 hk, gb_s, List.length_append, List.length_cons]
  rfl
end MInit

