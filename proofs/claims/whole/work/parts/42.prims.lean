/-! What the heap answers, object by object (written by program) -/
section Prims
variable {p : Nat} {D : OD} {h : PH}
theorem qk0 (hF : p + 2 ≤ h.length) : gIs 0 p (pt sX0 p D h) = true := gIs_pt hF rfl
theorem qg0_0 (hF : p + 2 ≤ h.length) : gfR 0 0 p (pt sX0 p D h) = some (pl p 0) := gfR_pt hF rfl rfl
theorem qg0_1 (hF : p + 2 ≤ h.length) : gfI 0 1 p (pt sX0 p D h) = some (oi D 1) := gfI_pt hF rfl rfl
theorem qs0_1 (hF : p + 2 ≤ h.length) {v : Int32} : pfV 0 1 p (.int v) (pt sX0 p D h) = some (pt sX0 p (si D 1 v) h) := pfI_pt hF rfl rfl
theorem qg0_2 (hF : p + 2 ≤ h.length) : gfI 0 2 p (pt sX0 p D h) = some (oi D 2) := gfI_pt hF rfl rfl
theorem qs0_2 (hF : p + 2 ≤ h.length) {v : Int32} : pfV 0 2 p (.int v) (pt sX0 p D h) = some (pt sX0 p (si D 2 v) h) := pfI_pt hF rfl rfl
theorem qa0_0 (hF : p + 2 ≤ h.length) {i : Int32} (hi : ixok i 1000) : arL 1 (pl p 0) i (pt sX0 p D h) = some (om D 0 i.toNatClampNeg) := arL_pt hF rfl hi
theorem qe0_0 (hF : p + 2 ≤ h.length) {i : Int32} {x : Int64} (hi : ixok i 1000) : asL 1 (pl p 0) i x (pt sX0 p D h) = some (pt sX0 p (sm D 0 (vp_updL (om D 0) i.toNatClampNeg x)) h) := asL_pt hF w0 rfl hi
theorem ql0_0 (hF : p + 2 ≤ h.length) : alen 1 (pl p 0) (pt sX0 p D h) = some (Int32.ofNat 1000) := alen_pt hF rfl
theorem qk1 (hF : p + 5 ≤ h.length) : gIs 1 p (pt sX1 p D h) = true := gIs_pt hF rfl
theorem qg1_0 (hF : p + 5 ≤ h.length) : gfR 1 0 p (pt sX1 p D h) = some (pl p 0) := gfR_pt hF rfl rfl
theorem qg1_1 (hF : p + 5 ≤ h.length) : gfR 1 1 p (pt sX1 p D h) = some (pl p 1) := gfR_pt hF rfl rfl
theorem qg1_2 (hF : p + 5 ≤ h.length) : gfR 1 2 p (pt sX1 p D h) = some (pl p 2) := gfR_pt hF rfl rfl
theorem qg1_3 (hF : p + 5 ≤ h.length) : gfR 1 3 p (pt sX1 p D h) = some (pl p 3) := gfR_pt hF rfl rfl
theorem qg1_4 (hF : p + 5 ≤ h.length) : gfI 1 4 p (pt sX1 p D h) = some (oi D 4) := gfI_pt hF rfl rfl
theorem qs1_4 (hF : p + 5 ≤ h.length) {v : Int32} : pfV 1 4 p (.int v) (pt sX1 p D h) = some (pt sX1 p (si D 4 v) h) := pfI_pt hF rfl rfl
theorem qg1_5 (hF : p + 5 ≤ h.length) : gfI 1 5 p (pt sX1 p D h) = some (oi D 5) := gfI_pt hF rfl rfl
theorem qs1_5 (hF : p + 5 ≤ h.length) {v : Int32} : pfV 1 5 p (.int v) (pt sX1 p D h) = some (pt sX1 p (si D 5 v) h) := pfI_pt hF rfl rfl
theorem qg1_6 (hF : p + 5 ≤ h.length) : gfI 1 6 p (pt sX1 p D h) = some (oi D 6) := gfI_pt hF rfl rfl
theorem qs1_6 (hF : p + 5 ≤ h.length) {v : Int32} : pfV 1 6 p (.int v) (pt sX1 p D h) = some (pt sX1 p (si D 6 v) h) := pfI_pt hF rfl rfl
theorem qg1_7 (hF : p + 5 ≤ h.length) : gfI 1 7 p (pt sX1 p D h) = some (oi D 7) := gfI_pt hF rfl rfl
theorem qs1_7 (hF : p + 5 ≤ h.length) {v : Int32} : pfV 1 7 p (.int v) (pt sX1 p D h) = some (pt sX1 p (si D 7 v) h) := pfI_pt hF rfl rfl
theorem qg1_8 (hF : p + 5 ≤ h.length) : gfI 1 8 p (pt sX1 p D h) = some (oi D 8) := gfI_pt hF rfl rfl
theorem qs1_8 (hF : p + 5 ≤ h.length) {v : Int32} : pfV 1 8 p (.int v) (pt sX1 p D h) = some (pt sX1 p (si D 8 v) h) := pfI_pt hF rfl rfl
theorem qg1_9 (hF : p + 5 ≤ h.length) : gfI 1 9 p (pt sX1 p D h) = some (oi D 9) := gfI_pt hF rfl rfl
theorem qs1_9 (hF : p + 5 ≤ h.length) {v : Int32} : pfV 1 9 p (.int v) (pt sX1 p D h) = some (pt sX1 p (si D 9 v) h) := pfI_pt hF rfl rfl
theorem qa1_0 (hF : p + 5 ≤ h.length) {i : Int32} (hi : ixok i 10) : arI 0 (pl p 0) i (pt sX1 p D h) = some (oa D 0 i.toNatClampNeg) := arI_pt hF rfl hi
theorem qe1_0 (hF : p + 5 ≤ h.length) {i x : Int32} (hi : ixok i 10) : asI 0 (pl p 0) i x (pt sX1 p D h) = some (pt sX1 p (sa D 0 (upd (oa D 0) i.toNatClampNeg (x))) h) := asI_pt hF w1 rfl hi
theorem ql1_0 (hF : p + 5 ≤ h.length) : alen 0 (pl p 0) (pt sX1 p D h) = some (Int32.ofNat 10) := alen_pt hF rfl
theorem qa1_1 (hF : p + 5 ≤ h.length) {i : Int32} (hi : ixok i 10) : arI 0 (pl p 1) i (pt sX1 p D h) = some (oa D 1 i.toNatClampNeg) := arI_pt hF rfl hi
theorem qe1_1 (hF : p + 5 ≤ h.length) {i x : Int32} (hi : ixok i 10) : asI 0 (pl p 1) i x (pt sX1 p D h) = some (pt sX1 p (sa D 1 (upd (oa D 1) i.toNatClampNeg (x))) h) := asI_pt hF w1 rfl hi
theorem ql1_1 (hF : p + 5 ≤ h.length) : alen 0 (pl p 1) (pt sX1 p D h) = some (Int32.ofNat 10) := alen_pt hF rfl
theorem qa1_2 (hF : p + 5 ≤ h.length) {i : Int32} (hi : ixok i 10) : arI 0 (pl p 2) i (pt sX1 p D h) = some (oa D 2 i.toNatClampNeg) := arI_pt hF rfl hi
theorem qe1_2 (hF : p + 5 ≤ h.length) {i x : Int32} (hi : ixok i 10) : asI 0 (pl p 2) i x (pt sX1 p D h) = some (pt sX1 p (sa D 2 (upd (oa D 2) i.toNatClampNeg (x))) h) := asI_pt hF w1 rfl hi
theorem ql1_2 (hF : p + 5 ≤ h.length) : alen 0 (pl p 2) (pt sX1 p D h) = some (Int32.ofNat 10) := alen_pt hF rfl
theorem qa1_3 (hF : p + 5 ≤ h.length) {i : Int32} (hi : ixok i 10) : arI 0 (pl p 3) i (pt sX1 p D h) = some (oa D 3 i.toNatClampNeg) := arI_pt hF rfl hi
theorem qe1_3 (hF : p + 5 ≤ h.length) {i x : Int32} (hi : ixok i 10) : asI 0 (pl p 3) i x (pt sX1 p D h) = some (pt sX1 p (sa D 3 (upd (oa D 3) i.toNatClampNeg (x))) h) := asI_pt hF w1 rfl hi
theorem ql1_3 (hF : p + 5 ≤ h.length) : alen 0 (pl p 3) (pt sX1 p D h) = some (Int32.ofNat 10) := alen_pt hF rfl
theorem qk2 (hF : p + 7 ≤ h.length) : gIs 2 p (pt sX2 p D h) = true := gIs_pt hF rfl
theorem qg2_0 (hF : p + 7 ≤ h.length) : gfI 2 0 p (pt sX2 p D h) = some (oi D 0) := gfI_pt hF rfl rfl
theorem qs2_0 (hF : p + 7 ≤ h.length) {v : Int32} : pfV 2 0 p (.int v) (pt sX2 p D h) = some (pt sX2 p (si D 0 v) h) := pfI_pt hF rfl rfl
theorem qg2_1 (hF : p + 7 ≤ h.length) : gfI 2 1 p (pt sX2 p D h) = some (oi D 1) := gfI_pt hF rfl rfl
theorem qs2_1 (hF : p + 7 ≤ h.length) {v : Int32} : pfV 2 1 p (.int v) (pt sX2 p D h) = some (pt sX2 p (si D 1 v) h) := pfI_pt hF rfl rfl
theorem qg2_2 (hF : p + 7 ≤ h.length) : gfI 2 2 p (pt sX2 p D h) = some (oi D 2) := gfI_pt hF rfl rfl
theorem qs2_2 (hF : p + 7 ≤ h.length) {v : Int32} : pfV 2 2 p (.int v) (pt sX2 p D h) = some (pt sX2 p (si D 2 v) h) := pfI_pt hF rfl rfl
theorem qg2_3 (hF : p + 7 ≤ h.length) : gfI 2 3 p (pt sX2 p D h) = some (oi D 3) := gfI_pt hF rfl rfl
theorem qs2_3 (hF : p + 7 ≤ h.length) {v : Int32} : pfV 2 3 p (.int v) (pt sX2 p D h) = some (pt sX2 p (si D 3 v) h) := pfI_pt hF rfl rfl
theorem qg2_4 (hF : p + 7 ≤ h.length) : gfI 2 4 p (pt sX2 p D h) = some (oi D 4) := gfI_pt hF rfl rfl
theorem qs2_4 (hF : p + 7 ≤ h.length) {v : Int32} : pfV 2 4 p (.int v) (pt sX2 p D h) = some (pt sX2 p (si D 4 v) h) := pfI_pt hF rfl rfl
theorem qg2_5 (hF : p + 7 ≤ h.length) : gfR 2 5 p (pt sX2 p D h) = some (pl p 0) := gfR_pt hF rfl rfl
theorem qg2_6 (hF : p + 7 ≤ h.length) : gfR 2 6 p (pt sX2 p D h) = some (pl p 1) := gfR_pt hF rfl rfl
theorem qg2_7 (hF : p + 7 ≤ h.length) : gfR 2 7 p (pt sX2 p D h) = some (pl p 2) := gfR_pt hF rfl rfl
theorem qg2_8 (hF : p + 7 ≤ h.length) : gfR 2 8 p (pt sX2 p D h) = some (pl p 3) := gfR_pt hF rfl rfl
theorem qg2_9 (hF : p + 7 ≤ h.length) : gfR 2 9 p (pt sX2 p D h) = some (pl p 4) := gfR_pt hF rfl rfl
theorem qg2_10 (hF : p + 7 ≤ h.length) : gfR 2 10 p (pt sX2 p D h) = some (pl p 5) := gfR_pt hF rfl rfl
theorem qg2_11 (hF : p + 7 ≤ h.length) : gfI 2 11 p (pt sX2 p D h) = some (oi D 11) := gfI_pt hF rfl rfl
theorem qs2_11 (hF : p + 7 ≤ h.length) {v : Int32} : pfV 2 11 p (.int v) (pt sX2 p D h) = some (pt sX2 p (si D 11 v) h) := pfI_pt hF rfl rfl
theorem qa2_5 (hF : p + 7 ≤ h.length) {i : Int32} (hi : ixok i 10) : arI 0 (pl p 0) i (pt sX2 p D h) = some (oa D 5 i.toNatClampNeg) := arI_pt hF rfl hi
theorem qe2_5 (hF : p + 7 ≤ h.length) {i x : Int32} (hi : ixok i 10) : asI 0 (pl p 0) i x (pt sX2 p D h) = some (pt sX2 p (sa D 5 (upd (oa D 5) i.toNatClampNeg (x))) h) := asI_pt hF w2 rfl hi
theorem ql2_5 (hF : p + 7 ≤ h.length) : alen 0 (pl p 0) (pt sX2 p D h) = some (Int32.ofNat 10) := alen_pt hF rfl
theorem qa2_6 (hF : p + 7 ≤ h.length) {i : Int32} (hi : ixok i 10) : arI 0 (pl p 1) i (pt sX2 p D h) = some (oa D 6 i.toNatClampNeg) := arI_pt hF rfl hi
theorem qe2_6 (hF : p + 7 ≤ h.length) {i x : Int32} (hi : ixok i 10) : asI 0 (pl p 1) i x (pt sX2 p D h) = some (pt sX2 p (sa D 6 (upd (oa D 6) i.toNatClampNeg (x))) h) := asI_pt hF w2 rfl hi
theorem ql2_6 (hF : p + 7 ≤ h.length) : alen 0 (pl p 1) (pt sX2 p D h) = some (Int32.ofNat 10) := alen_pt hF rfl
theorem qa2_7 (hF : p + 7 ≤ h.length) {i : Int32} (hi : ixok i 10) : arI 0 (pl p 2) i (pt sX2 p D h) = some (oa D 7 i.toNatClampNeg) := arI_pt hF rfl hi
theorem qe2_7 (hF : p + 7 ≤ h.length) {i x : Int32} (hi : ixok i 10) : asI 0 (pl p 2) i x (pt sX2 p D h) = some (pt sX2 p (sa D 7 (upd (oa D 7) i.toNatClampNeg (x))) h) := asI_pt hF w2 rfl hi
theorem ql2_7 (hF : p + 7 ≤ h.length) : alen 0 (pl p 2) (pt sX2 p D h) = some (Int32.ofNat 10) := alen_pt hF rfl
theorem qa2_8 (hF : p + 7 ≤ h.length) {i : Int32} (hi : ixok i 10) : arL 1 (pl p 3) i (pt sX2 p D h) = some (om D 8 i.toNatClampNeg) := arL_pt hF rfl hi
theorem qe2_8 (hF : p + 7 ≤ h.length) {i : Int32} {x : Int64} (hi : ixok i 10) : asL 1 (pl p 3) i x (pt sX2 p D h) = some (pt sX2 p (sm D 8 (vp_updL (om D 8) i.toNatClampNeg x)) h) := asL_pt hF w2 rfl hi
theorem ql2_8 (hF : p + 7 ≤ h.length) : alen 1 (pl p 3) (pt sX2 p D h) = some (Int32.ofNat 10) := alen_pt hF rfl
theorem qa2_9 (hF : p + 7 ≤ h.length) {i : Int32} (hi : ixok i 1000) : arI 0 (pl p 4) i (pt sX2 p D h) = some (oa D 9 i.toNatClampNeg) := arI_pt hF rfl hi
theorem qe2_9 (hF : p + 7 ≤ h.length) {i x : Int32} (hi : ixok i 1000) : asI 0 (pl p 4) i x (pt sX2 p D h) = some (pt sX2 p (sa D 9 (upd (oa D 9) i.toNatClampNeg (x))) h) := asI_pt hF w2 rfl hi
theorem ql2_9 (hF : p + 7 ≤ h.length) : alen 0 (pl p 4) (pt sX2 p D h) = some (Int32.ofNat 1000) := alen_pt hF rfl
theorem qa2_10 (hF : p + 7 ≤ h.length) {i : Int32} (hi : ixok i 5) : arI 0 (pl p 5) i (pt sX2 p D h) = some (oa D 10 i.toNatClampNeg) := arI_pt hF rfl hi
theorem qe2_10 (hF : p + 7 ≤ h.length) {i x : Int32} (hi : ixok i 5) : asI 0 (pl p 5) i x (pt sX2 p D h) = some (pt sX2 p (sa D 10 (upd (oa D 10) i.toNatClampNeg (x))) h) := asI_pt hF w2 rfl hi
theorem ql2_10 (hF : p + 7 ≤ h.length) : alen 0 (pl p 5) (pt sX2 p D h) = some (Int32.ofNat 5) := alen_pt hF rfl
theorem qk3 (hF : p + 1 ≤ h.length) : gIs 3 p (pt sX3 p D h) = true := gIs_pt hF rfl
theorem qs3_0 (hF : p + 1 ≤ h.length) {v : Value} : pfV 3 0 p v (pt sX3 p D h) = some (pt sX3 p (sv D 0 v) h) := pfR_pt hF rfl rfl
theorem qs3_1 (hF : p + 1 ≤ h.length) {v : Value} : pfV 3 1 p v (pt sX3 p D h) = some (pt sX3 p (sv D 1 v) h) := pfR_pt hF rfl rfl
theorem qg3_2 (hF : p + 1 ≤ h.length) : gfI 3 2 p (pt sX3 p D h) = some (oi D 2) := gfI_pt hF rfl rfl
theorem qs3_2 (hF : p + 1 ≤ h.length) {v : Int32} : pfV 3 2 p (.int v) (pt sX3 p D h) = some (pt sX3 p (si D 2 v) h) := pfI_pt hF rfl rfl
theorem qk4 (hF : p + 4 ≤ h.length) : gIs 4 p (pt sX4 p D h) = true := gIs_pt hF rfl
theorem qg4_0 (hF : p + 4 ≤ h.length) : gfR 4 0 p (pt sX4 p D h) = some (pl p 0) := gfR_pt hF rfl rfl
theorem qg4_1 (hF : p + 4 ≤ h.length) : gfR 4 1 p (pt sX4 p D h) = some (pl p 1) := gfR_pt hF rfl rfl
theorem qg4_2 (hF : p + 4 ≤ h.length) : gfR 4 2 p (pt sX4 p D h) = some (pl p 2) := gfR_pt hF rfl rfl
theorem qg4_3 (hF : p + 4 ≤ h.length) : gfI 4 3 p (pt sX4 p D h) = some (oi D 3) := gfI_pt hF rfl rfl
theorem qs4_3 (hF : p + 4 ≤ h.length) {v : Int32} : pfV 4 3 p (.int v) (pt sX4 p D h) = some (pt sX4 p (si D 3 v) h) := pfI_pt hF rfl rfl
theorem qa4_0 (hF : p + 4 ≤ h.length) {i : Int32} (hi : ixok i 7) : arI 0 (pl p 0) i (pt sX4 p D h) = some (oa D 0 i.toNatClampNeg) := arI_pt hF rfl hi
theorem qe4_0 (hF : p + 4 ≤ h.length) {i x : Int32} (hi : ixok i 7) : asI 0 (pl p 0) i x (pt sX4 p D h) = some (pt sX4 p (sa D 0 (upd (oa D 0) i.toNatClampNeg (x))) h) := asI_pt hF w4 rfl hi
theorem ql4_0 (hF : p + 4 ≤ h.length) : alen 0 (pl p 0) (pt sX4 p D h) = some (Int32.ofNat 7) := alen_pt hF rfl
theorem qa4_1 (hF : p + 4 ≤ h.length) {i : Int32} (hi : ixok i 7) : arI 0 (pl p 1) i (pt sX4 p D h) = some (oa D 1 i.toNatClampNeg) := arI_pt hF rfl hi
theorem qe4_1 (hF : p + 4 ≤ h.length) {i x : Int32} (hi : ixok i 7) : asI 0 (pl p 1) i x (pt sX4 p D h) = some (pt sX4 p (sa D 1 (upd (oa D 1) i.toNatClampNeg (x))) h) := asI_pt hF w4 rfl hi
theorem ql4_1 (hF : p + 4 ≤ h.length) : alen 0 (pl p 1) (pt sX4 p D h) = some (Int32.ofNat 7) := alen_pt hF rfl
theorem qa4_2 (hF : p + 4 ≤ h.length) {i : Int32} (hi : ixok i 7) : arI 0 (pl p 2) i (pt sX4 p D h) = some (oa D 2 i.toNatClampNeg) := arI_pt hF rfl hi
theorem qe4_2 (hF : p + 4 ≤ h.length) {i x : Int32} (hi : ixok i 7) : asI 0 (pl p 2) i x (pt sX4 p D h) = some (pt sX4 p (sa D 2 (upd (oa D 2) i.toNatClampNeg (x))) h) := asI_pt hF w4 rfl hi
theorem ql4_2 (hF : p + 4 ≤ h.length) : alen 0 (pl p 2) (pt sX4 p D h) = some (Int32.ofNat 7) := alen_pt hF rfl
theorem qk5 (hF : p + 4 ≤ h.length) : gIs 5 p (pt sX5 p D h) = true := gIs_pt hF rfl
theorem qg5_0 (hF : p + 4 ≤ h.length) : gfR 5 0 p (pt sX5 p D h) = some (pl p 0) := gfR_pt hF rfl rfl
theorem qg5_1 (hF : p + 4 ≤ h.length) : gfI 5 1 p (pt sX5 p D h) = some (oi D 1) := gfI_pt hF rfl rfl
theorem qs5_1 (hF : p + 4 ≤ h.length) {v : Int32} : pfV 5 1 p (.int v) (pt sX5 p D h) = some (pt sX5 p (si D 1 v) h) := pfI_pt hF rfl rfl
theorem qs5_2 (hF : p + 4 ≤ h.length) {v : Value} : pfV 5 2 p v (pt sX5 p D h) = some (pt sX5 p (sv D 2 v) h) := pfR_pt hF rfl rfl
theorem qg5_3 (hF : p + 4 ≤ h.length) : gfR 5 3 p (pt sX5 p D h) = some (pl p 1) := gfR_pt hF rfl rfl
theorem qg5_4 (hF : p + 4 ≤ h.length) : gfR 5 4 p (pt sX5 p D h) = some (pl p 2) := gfR_pt hF rfl rfl
theorem qa5_0 (hF : p + 4 ≤ h.length) {i : Int32} (hi : ixok i 7) : arI 0 (pl p 0) i (pt sX5 p D h) = some (oa D 0 i.toNatClampNeg) := arI_pt hF rfl hi
theorem qe5_0 (hF : p + 4 ≤ h.length) {i x : Int32} (hi : ixok i 7) : asI 0 (pl p 0) i x (pt sX5 p D h) = some (pt sX5 p (sa D 0 (upd (oa D 0) i.toNatClampNeg (x))) h) := asI_pt hF w5 rfl hi
theorem ql5_0 (hF : p + 4 ≤ h.length) : alen 0 (pl p 0) (pt sX5 p D h) = some (Int32.ofNat 7) := alen_pt hF rfl
theorem qa5_3 (hF : p + 4 ≤ h.length) {i : Int32} (hi : ixok i 7) : arI 0 (pl p 1) i (pt sX5 p D h) = some (oa D 3 i.toNatClampNeg) := arI_pt hF rfl hi
theorem qe5_3 (hF : p + 4 ≤ h.length) {i x : Int32} (hi : ixok i 7) : asI 0 (pl p 1) i x (pt sX5 p D h) = some (pt sX5 p (sa D 3 (upd (oa D 3) i.toNatClampNeg (x))) h) := asI_pt hF w5 rfl hi
theorem ql5_3 (hF : p + 4 ≤ h.length) : alen 0 (pl p 1) (pt sX5 p D h) = some (Int32.ofNat 7) := alen_pt hF rfl
theorem qa5_4 (hF : p + 4 ≤ h.length) {i : Int32} (hi : ixok i 128) : arI 0 (pl p 2) i (pt sX5 p D h) = some (oa D 4 i.toNatClampNeg) := arI_pt hF rfl hi
theorem qe5_4 (hF : p + 4 ≤ h.length) {i x : Int32} (hi : ixok i 128) : asI 0 (pl p 2) i x (pt sX5 p D h) = some (pt sX5 p (sa D 4 (upd (oa D 4) i.toNatClampNeg (x))) h) := asI_pt hF w5 rfl hi
theorem ql5_4 (hF : p + 4 ≤ h.length) : alen 0 (pl p 2) (pt sX5 p D h) = some (Int32.ofNat 128) := alen_pt hF rfl
theorem qk6 (hF : p + 3 ≤ h.length) : gIs 6 p (pt sX6 p D h) = true := gIs_pt hF rfl
theorem qg6_0 (hF : p + 3 ≤ h.length) : gfR 6 0 p (pt sX6 p D h) = some (pl p 0) := gfR_pt hF rfl rfl
theorem qg6_1 (hF : p + 3 ≤ h.length) : gfR 6 1 p (pt sX6 p D h) = some (pl p 1) := gfR_pt hF rfl rfl
theorem qa6_0 (hF : p + 3 ≤ h.length) {i : Int32} (hi : ixok i 10) : arI 0 (pl p 0) i (pt sX6 p D h) = some (oa D 0 i.toNatClampNeg) := arI_pt hF rfl hi
theorem qe6_0 (hF : p + 3 ≤ h.length) {i x : Int32} (hi : ixok i 10) : asI 0 (pl p 0) i x (pt sX6 p D h) = some (pt sX6 p (sa D 0 (upd (oa D 0) i.toNatClampNeg (x))) h) := asI_pt hF w6 rfl hi
theorem ql6_0 (hF : p + 3 ≤ h.length) : alen 0 (pl p 0) (pt sX6 p D h) = some (Int32.ofNat 10) := alen_pt hF rfl
theorem qa6_1 (hF : p + 3 ≤ h.length) {i : Int32} (hi : ixok i 10) : arI 0 (pl p 1) i (pt sX6 p D h) = some (oa D 1 i.toNatClampNeg) := arI_pt hF rfl hi
theorem qe6_1 (hF : p + 3 ≤ h.length) {i x : Int32} (hi : ixok i 10) : asI 0 (pl p 1) i x (pt sX6 p D h) = some (pt sX6 p (sa D 1 (upd (oa D 1) i.toNatClampNeg (x))) h) := asI_pt hF w6 rfl hi
theorem ql6_1 (hF : p + 3 ≤ h.length) : alen 0 (pl p 1) (pt sX6 p D h) = some (Int32.ofNat 10) := alen_pt hF rfl
theorem qk7 (hF : p + 3 ≤ h.length) : gIs 7 p (pt sX7 p D h) = true := gIs_pt hF rfl
theorem qg7_0 (hF : p + 3 ≤ h.length) : gfR 7 0 p (pt sX7 p D h) = some (pl p 0) := gfR_pt hF rfl rfl
theorem qg7_1 (hF : p + 3 ≤ h.length) : gfI 7 1 p (pt sX7 p D h) = some (oi D 1) := gfI_pt hF rfl rfl
theorem qs7_1 (hF : p + 3 ≤ h.length) {v : Int32} : pfV 7 1 p (.int v) (pt sX7 p D h) = some (pt sX7 p (si D 1 v) h) := pfI_pt hF rfl rfl
theorem qg7_2 (hF : p + 3 ≤ h.length) : gfR 7 2 p (pt sX7 p D h) = some (pl p 1) := gfR_pt hF rfl rfl
theorem qa7_0 (hF : p + 3 ≤ h.length) {i : Int32} (hi : ixok i 32) : arI 0 (pl p 0) i (pt sX7 p D h) = some (oa D 0 i.toNatClampNeg) := arI_pt hF rfl hi
theorem qe7_0 (hF : p + 3 ≤ h.length) {i x : Int32} (hi : ixok i 32) : asI 0 (pl p 0) i x (pt sX7 p D h) = some (pt sX7 p (sa D 0 (upd (oa D 0) i.toNatClampNeg (x))) h) := asI_pt hF w7 rfl hi
theorem ql7_0 (hF : p + 3 ≤ h.length) : alen 0 (pl p 0) (pt sX7 p D h) = some (Int32.ofNat 32) := alen_pt hF rfl
theorem qa7_2 (hF : p + 3 ≤ h.length) {i : Int32} (hi : ixok i 8) : arI 0 (pl p 1) i (pt sX7 p D h) = some (oa D 2 i.toNatClampNeg) := arI_pt hF rfl hi
theorem qe7_2 (hF : p + 3 ≤ h.length) {i x : Int32} (hi : ixok i 8) : asI 0 (pl p 1) i x (pt sX7 p D h) = some (pt sX7 p (sa D 2 (upd (oa D 2) i.toNatClampNeg (x))) h) := asI_pt hF w7 rfl hi
theorem ql7_2 (hF : p + 3 ≤ h.length) : alen 0 (pl p 1) (pt sX7 p D h) = some (Int32.ofNat 8) := alen_pt hF rfl
theorem qk8 (hF : p + 6 ≤ h.length) : gIs 8 p (pt sX8 p D h) = true := gIs_pt hF rfl
theorem qg8_0 (hF : p + 6 ≤ h.length) : gfR 8 0 p (pt sX8 p D h) = some (pl p 0) := gfR_pt hF rfl rfl
theorem qg8_1 (hF : p + 6 ≤ h.length) : gfR 8 1 p (pt sX8 p D h) = some (pl p 1) := gfR_pt hF rfl rfl
theorem qg8_2 (hF : p + 6 ≤ h.length) : gfR 8 2 p (pt sX8 p D h) = some (pl p 2) := gfR_pt hF rfl rfl
theorem qg8_3 (hF : p + 6 ≤ h.length) : gfR 8 3 p (pt sX8 p D h) = some (pl p 3) := gfR_pt hF rfl rfl
theorem qg8_4 (hF : p + 6 ≤ h.length) : gfR 8 4 p (pt sX8 p D h) = some (pl p 4) := gfR_pt hF rfl rfl
theorem qg8_5 (hF : p + 6 ≤ h.length) : gfI 8 5 p (pt sX8 p D h) = some (oi D 5) := gfI_pt hF rfl rfl
theorem qs8_5 (hF : p + 6 ≤ h.length) {v : Int32} : pfV 8 5 p (.int v) (pt sX8 p D h) = some (pt sX8 p (si D 5 v) h) := pfI_pt hF rfl rfl
theorem qa8_0 (hF : p + 6 ≤ h.length) {i : Int32} (hi : ixok i 20) : arI 0 (pl p 0) i (pt sX8 p D h) = some (oa D 0 i.toNatClampNeg) := arI_pt hF rfl hi
theorem qe8_0 (hF : p + 6 ≤ h.length) {i x : Int32} (hi : ixok i 20) : asI 0 (pl p 0) i x (pt sX8 p D h) = some (pt sX8 p (sa D 0 (upd (oa D 0) i.toNatClampNeg (x))) h) := asI_pt hF w8 rfl hi
theorem ql8_0 (hF : p + 6 ≤ h.length) : alen 0 (pl p 0) (pt sX8 p D h) = some (Int32.ofNat 20) := alen_pt hF rfl
theorem qa8_1 (hF : p + 6 ≤ h.length) {i : Int32} (hi : ixok i 20) : arI 0 (pl p 1) i (pt sX8 p D h) = some (oa D 1 i.toNatClampNeg) := arI_pt hF rfl hi
theorem qe8_1 (hF : p + 6 ≤ h.length) {i x : Int32} (hi : ixok i 20) : asI 0 (pl p 1) i x (pt sX8 p D h) = some (pt sX8 p (sa D 1 (upd (oa D 1) i.toNatClampNeg (x))) h) := asI_pt hF w8 rfl hi
theorem ql8_1 (hF : p + 6 ≤ h.length) : alen 0 (pl p 1) (pt sX8 p D h) = some (Int32.ofNat 20) := alen_pt hF rfl
theorem qa8_2 (hF : p + 6 ≤ h.length) {i : Int32} (hi : ixok i 20) : arI 0 (pl p 2) i (pt sX8 p D h) = some (oa D 2 i.toNatClampNeg) := arI_pt hF rfl hi
theorem qe8_2 (hF : p + 6 ≤ h.length) {i x : Int32} (hi : ixok i 20) : asI 0 (pl p 2) i x (pt sX8 p D h) = some (pt sX8 p (sa D 2 (upd (oa D 2) i.toNatClampNeg (x))) h) := asI_pt hF w8 rfl hi
theorem ql8_2 (hF : p + 6 ≤ h.length) : alen 0 (pl p 2) (pt sX8 p D h) = some (Int32.ofNat 20) := alen_pt hF rfl
theorem qa8_3 (hF : p + 6 ≤ h.length) {i : Int32} (hi : ixok i 20) : arI 0 (pl p 3) i (pt sX8 p D h) = some (oa D 3 i.toNatClampNeg) := arI_pt hF rfl hi
theorem qe8_3 (hF : p + 6 ≤ h.length) {i x : Int32} (hi : ixok i 20) : asI 0 (pl p 3) i x (pt sX8 p D h) = some (pt sX8 p (sa D 3 (upd (oa D 3) i.toNatClampNeg (x))) h) := asI_pt hF w8 rfl hi
theorem ql8_3 (hF : p + 6 ≤ h.length) : alen 0 (pl p 3) (pt sX8 p D h) = some (Int32.ofNat 20) := alen_pt hF rfl
theorem qa8_4 (hF : p + 6 ≤ h.length) {i : Int32} (hi : ixok i 10) : arI 0 (pl p 4) i (pt sX8 p D h) = some (oa D 4 i.toNatClampNeg) := arI_pt hF rfl hi
theorem qe8_4 (hF : p + 6 ≤ h.length) {i x : Int32} (hi : ixok i 10) : asI 0 (pl p 4) i x (pt sX8 p D h) = some (pt sX8 p (sa D 4 (upd (oa D 4) i.toNatClampNeg (x))) h) := asI_pt hF w8 rfl hi
theorem ql8_4 (hF : p + 6 ≤ h.length) : alen 0 (pl p 4) (pt sX8 p D h) = some (Int32.ofNat 10) := alen_pt hF rfl
theorem qk9 (hF : p + 1 ≤ h.length) : gIs 9 p (pt sX9 p D h) = true := gIs_pt hF rfl
theorem qs9_0 (hF : p + 1 ≤ h.length) {v : Value} : pfV 9 0 p v (pt sX9 p D h) = some (pt sX9 p (sv D 0 v) h) := pfR_pt hF rfl rfl
theorem qs9_1 (hF : p + 1 ≤ h.length) {v : Value} : pfV 9 1 p v (pt sX9 p D h) = some (pt sX9 p (sv D 1 v) h) := pfR_pt hF rfl rfl
theorem qs9_2 (hF : p + 1 ≤ h.length) {v : Value} : pfV 9 2 p v (pt sX9 p D h) = some (pt sX9 p (sv D 2 v) h) := pfR_pt hF rfl rfl
theorem qs9_3 (hF : p + 1 ≤ h.length) {v : Value} : pfV 9 3 p v (pt sX9 p D h) = some (pt sX9 p (sv D 3 v) h) := pfR_pt hF rfl rfl
theorem qs9_4 (hF : p + 1 ≤ h.length) {v : Value} : pfV 9 4 p v (pt sX9 p D h) = some (pt sX9 p (sv D 4 v) h) := pfR_pt hF rfl rfl
theorem qs9_5 (hF : p + 1 ≤ h.length) {v : Value} : pfV 9 5 p v (pt sX9 p D h) = some (pt sX9 p (sv D 5 v) h) := pfR_pt hF rfl rfl
theorem qs9_6 (hF : p + 1 ≤ h.length) {v : Value} : pfV 9 6 p v (pt sX9 p D h) = some (pt sX9 p (sv D 6 v) h) := pfR_pt hF rfl rfl
theorem qg9_7 (hF : p + 1 ≤ h.length) : gfI 9 7 p (pt sX9 p D h) = some (oi D 7) := gfI_pt hF rfl rfl
theorem qs9_7 (hF : p + 1 ≤ h.length) {v : Int32} : pfV 9 7 p (.int v) (pt sX9 p D h) = some (pt sX9 p (si D 7 v) h) := pfI_pt hF rfl rfl
theorem qg9_8 (hF : p + 1 ≤ h.length) : gfI 9 8 p (pt sX9 p D h) = some (oi D 8) := gfI_pt hF rfl rfl
theorem qs9_8 (hF : p + 1 ≤ h.length) {v : Int32} : pfV 9 8 p (.int v) (pt sX9 p D h) = some (pt sX9 p (si D 8 v) h) := pfI_pt hF rfl rfl
theorem qg9_9 (hF : p + 1 ≤ h.length) : gfI 9 9 p (pt sX9 p D h) = some (oi D 9) := gfI_pt hF rfl rfl
theorem qs9_9 (hF : p + 1 ≤ h.length) {v : Int32} : pfV 9 9 p (.int v) (pt sX9 p D h) = some (pt sX9 p (si D 9 v) h) := pfI_pt hF rfl rfl
theorem qg9_10 (hF : p + 1 ≤ h.length) : gfI 9 10 p (pt sX9 p D h) = some (oi D 10) := gfI_pt hF rfl rfl
theorem qs9_10 (hF : p + 1 ≤ h.length) {v : Int32} : pfV 9 10 p (.int v) (pt sX9 p D h) = some (pt sX9 p (si D 10 v) h) := pfI_pt hF rfl rfl
theorem qk10 (hF : p + 2 ≤ h.length) : gIs 10 p (pt sX10 p D h) = true := gIs_pt hF rfl
theorem qg10_0 (hF : p + 2 ≤ h.length) : gfR 10 0 p (pt sX10 p D h) = some (pl p 0) := gfR_pt hF rfl rfl
theorem qg10_1 (hF : p + 2 ≤ h.length) : gfI 10 1 p (pt sX10 p D h) = some (oi D 1) := gfI_pt hF rfl rfl
theorem qs10_1 (hF : p + 2 ≤ h.length) {v : Int32} : pfV 10 1 p (.int v) (pt sX10 p D h) = some (pt sX10 p (si D 1 v) h) := pfI_pt hF rfl rfl
theorem qg10_2 (hF : p + 2 ≤ h.length) : gfI 10 2 p (pt sX10 p D h) = some (oi D 2) := gfI_pt hF rfl rfl
theorem qs10_2 (hF : p + 2 ≤ h.length) {v : Int32} : pfV 10 2 p (.int v) (pt sX10 p D h) = some (pt sX10 p (si D 2 v) h) := pfI_pt hF rfl rfl
theorem qg10_3 (hF : p + 2 ≤ h.length) : gfI 10 3 p (pt sX10 p D h) = some (oi D 3) := gfI_pt hF rfl rfl
theorem qs10_3 (hF : p + 2 ≤ h.length) {v : Int32} : pfV 10 3 p (.int v) (pt sX10 p D h) = some (pt sX10 p (si D 3 v) h) := pfI_pt hF rfl rfl
theorem qg10_4 (hF : p + 2 ≤ h.length) : gfI 10 4 p (pt sX10 p D h) = some (oi D 4) := gfI_pt hF rfl rfl
theorem qs10_4 (hF : p + 2 ≤ h.length) {v : Int32} : pfV 10 4 p (.int v) (pt sX10 p D h) = some (pt sX10 p (si D 4 v) h) := pfI_pt hF rfl rfl
theorem qg10_5 (hF : p + 2 ≤ h.length) : gfL 10 5 p (pt sX10 p D h) = some (ol D 5) := gfL_pt hF rfl rfl
theorem qs10_5 (hF : p + 2 ≤ h.length) {v : Int64} : pfV 10 5 p (.long v) (pt sX10 p D h) = some (pt sX10 p (sl D 5 v) h) := pfL_pt hF rfl rfl
theorem qg10_6 (hF : p + 2 ≤ h.length) : gfI 10 6 p (pt sX10 p D h) = some (oi D 6) := gfI_pt hF rfl rfl
theorem qs10_6 (hF : p + 2 ≤ h.length) {v : Int32} : pfV 10 6 p (.int v) (pt sX10 p D h) = some (pt sX10 p (si D 6 v) h) := pfI_pt hF rfl rfl
theorem qa10_0 (hF : p + 2 ≤ h.length) {i : Int32} (hi : ixok i 1000) : arI 2 (pl p 0) i (pt sX10 p D h) = some (oa D 0 i.toNatClampNeg) := arI_pt hF rfl hi
theorem qe10_0 (hF : p + 2 ≤ h.length) {i x : Int32} (hi : ixok i 1000) : asI 2 (pl p 0) i x (pt sX10 p D h) = some (pt sX10 p (sa D 0 (upd (oa D 0) i.toNatClampNeg (gnar 2 x))) h) := asI_pt hF w10 rfl hi
theorem ql10_0 (hF : p + 2 ≤ h.length) : alen 2 (pl p 0) (pt sX10 p D h) = some (Int32.ofNat 1000) := alen_pt hF rfl
theorem qk11 (hF : p + 1 ≤ h.length) : gIs 11 p (pt sX11 p D h) = true := gIs_pt hF rfl
theorem qs11_0 (hF : p + 1 ≤ h.length) {v : Value} : pfV 11 0 p v (pt sX11 p D h) = some (pt sX11 p (sv D 0 v) h) := pfR_pt hF rfl rfl
theorem qs11_1 (hF : p + 1 ≤ h.length) {v : Value} : pfV 11 1 p v (pt sX11 p D h) = some (pt sX11 p (sv D 1 v) h) := pfR_pt hF rfl rfl
theorem qs11_2 (hF : p + 1 ≤ h.length) {v : Value} : pfV 11 2 p v (pt sX11 p D h) = some (pt sX11 p (sv D 2 v) h) := pfR_pt hF rfl rfl
theorem qs11_3 (hF : p + 1 ≤ h.length) {v : Value} : pfV 11 3 p v (pt sX11 p D h) = some (pt sX11 p (sv D 3 v) h) := pfR_pt hF rfl rfl
theorem qs11_4 (hF : p + 1 ≤ h.length) {v : Value} : pfV 11 4 p v (pt sX11 p D h) = some (pt sX11 p (sv D 4 v) h) := pfR_pt hF rfl rfl
theorem qs11_5 (hF : p + 1 ≤ h.length) {v : Value} : pfV 11 5 p v (pt sX11 p D h) = some (pt sX11 p (sv D 5 v) h) := pfR_pt hF rfl rfl
theorem qs11_6 (hF : p + 1 ≤ h.length) {v : Value} : pfV 11 6 p v (pt sX11 p D h) = some (pt sX11 p (sv D 6 v) h) := pfR_pt hF rfl rfl
theorem qs11_7 (hF : p + 1 ≤ h.length) {v : Value} : pfV 11 7 p v (pt sX11 p D h) = some (pt sX11 p (sv D 7 v) h) := pfR_pt hF rfl rfl
theorem qs11_8 (hF : p + 1 ≤ h.length) {v : Value} : pfV 11 8 p v (pt sX11 p D h) = some (pt sX11 p (sv D 8 v) h) := pfR_pt hF rfl rfl
theorem qs11_9 (hF : p + 1 ≤ h.length) {v : Value} : pfV 11 9 p v (pt sX11 p D h) = some (pt sX11 p (sv D 9 v) h) := pfR_pt hF rfl rfl
theorem qs11_10 (hF : p + 1 ≤ h.length) {v : Value} : pfV 11 10 p v (pt sX11 p D h) = some (pt sX11 p (sv D 10 v) h) := pfR_pt hF rfl rfl
theorem qg11_11 (hF : p + 1 ≤ h.length) : gfI 11 11 p (pt sX11 p D h) = some (oi D 11) := gfI_pt hF rfl rfl
theorem qs11_11 (hF : p + 1 ≤ h.length) {v : Int32} : pfV 11 11 p (.int v) (pt sX11 p D h) = some (pt sX11 p (si D 11 v) h) := pfI_pt hF rfl rfl
theorem qk12 (hF : p + 25 ≤ h.length) : gIs 12 p (pt sX12 p D h) = true := gIs_pt hF rfl
theorem qg12_0 (hF : p + 25 ≤ h.length) : gfI 12 0 p (pt sX12 p D h) = some (oi D 0) := gfI_pt hF rfl rfl
theorem qs12_0 (hF : p + 25 ≤ h.length) {v : Int32} : pfV 12 0 p (.int v) (pt sX12 p D h) = some (pt sX12 p (si D 0 v) h) := pfI_pt hF rfl rfl
theorem qg12_1 (hF : p + 25 ≤ h.length) : gfR 12 1 p (pt sX12 p D h) = some (pl p 0) := gfR_pt hF rfl rfl
theorem qg12_2 (hF : p + 25 ≤ h.length) : gfI 12 2 p (pt sX12 p D h) = some (oi D 2) := gfI_pt hF rfl rfl
theorem qs12_2 (hF : p + 25 ≤ h.length) {v : Int32} : pfV 12 2 p (.int v) (pt sX12 p D h) = some (pt sX12 p (si D 2 v) h) := pfI_pt hF rfl rfl
theorem qg12_3 (hF : p + 25 ≤ h.length) : gfI 12 3 p (pt sX12 p D h) = some (oi D 3) := gfI_pt hF rfl rfl
theorem qs12_3 (hF : p + 25 ≤ h.length) {v : Int32} : pfV 12 3 p (.int v) (pt sX12 p D h) = some (pt sX12 p (si D 3 v) h) := pfI_pt hF rfl rfl
theorem qg12_4 (hF : p + 25 ≤ h.length) : gfR 12 4 p (pt sX12 p D h) = some (pl p 1) := gfR_pt hF rfl rfl
theorem qg12_5 (hF : p + 25 ≤ h.length) : gfR 12 5 p (pt sX12 p D h) = some (pl p 2) := gfR_pt hF rfl rfl
theorem qg12_6 (hF : p + 25 ≤ h.length) : gfR 12 6 p (pt sX12 p D h) = some (pl p 3) := gfR_pt hF rfl rfl
theorem qg12_7 (hF : p + 25 ≤ h.length) : gfI 12 7 p (pt sX12 p D h) = some (oi D 7) := gfI_pt hF rfl rfl
theorem qs12_7 (hF : p + 25 ≤ h.length) {v : Int32} : pfV 12 7 p (.int v) (pt sX12 p D h) = some (pt sX12 p (si D 7 v) h) := pfI_pt hF rfl rfl
theorem qg12_8 (hF : p + 25 ≤ h.length) : gfI 12 8 p (pt sX12 p D h) = some (oi D 8) := gfI_pt hF rfl rfl
theorem qs12_8 (hF : p + 25 ≤ h.length) {v : Int32} : pfV 12 8 p (.int v) (pt sX12 p D h) = some (pt sX12 p (si D 8 v) h) := pfI_pt hF rfl rfl
theorem qg12_9 (hF : p + 25 ≤ h.length) : gfR 12 9 p (pt sX12 p D h) = some (pl p 4) := gfR_pt hF rfl rfl
theorem qg12_10 (hF : p + 25 ≤ h.length) : gfR 12 10 p (pt sX12 p D h) = some (pl p 5) := gfR_pt hF rfl rfl
theorem qg12_11 (hF : p + 25 ≤ h.length) : gfR 12 11 p (pt sX12 p D h) = some (pl p 6) := gfR_pt hF rfl rfl
theorem qg12_12 (hF : p + 25 ≤ h.length) : gfR 12 12 p (pt sX12 p D h) = some (pl p 7) := gfR_pt hF rfl rfl
theorem qg12_13 (hF : p + 25 ≤ h.length) : gfI 12 13 p (pt sX12 p D h) = some (oi D 13) := gfI_pt hF rfl rfl
theorem qs12_13 (hF : p + 25 ≤ h.length) {v : Int32} : pfV 12 13 p (.int v) (pt sX12 p D h) = some (pt sX12 p (si D 13 v) h) := pfI_pt hF rfl rfl
theorem qg12_14 (hF : p + 25 ≤ h.length) : gfR 12 14 p (pt sX12 p D h) = some (pl p 8) := gfR_pt hF rfl rfl
theorem qg12_15 (hF : p + 25 ≤ h.length) : gfR 12 15 p (pt sX12 p D h) = some (pl p 9) := gfR_pt hF rfl rfl
theorem qg12_16 (hF : p + 25 ≤ h.length) : gfR 12 16 p (pt sX12 p D h) = some (pl p 10) := gfR_pt hF rfl rfl
theorem qg12_17 (hF : p + 25 ≤ h.length) : gfR 12 17 p (pt sX12 p D h) = some (pl p 11) := gfR_pt hF rfl rfl
theorem qg12_18 (hF : p + 25 ≤ h.length) : gfI 12 18 p (pt sX12 p D h) = some (oi D 18) := gfI_pt hF rfl rfl
theorem qs12_18 (hF : p + 25 ≤ h.length) {v : Int32} : pfV 12 18 p (.int v) (pt sX12 p D h) = some (pt sX12 p (si D 18 v) h) := pfI_pt hF rfl rfl
theorem qg12_19 (hF : p + 25 ≤ h.length) : gfR 12 19 p (pt sX12 p D h) = some (pl p 12) := gfR_pt hF rfl rfl
theorem qg12_20 (hF : p + 25 ≤ h.length) : gfR 12 20 p (pt sX12 p D h) = some (pl p 13) := gfR_pt hF rfl rfl
theorem qg12_21 (hF : p + 25 ≤ h.length) : gfR 12 21 p (pt sX12 p D h) = some (pl p 14) := gfR_pt hF rfl rfl
theorem qg12_22 (hF : p + 25 ≤ h.length) : gfR 12 22 p (pt sX12 p D h) = some (pl p 15) := gfR_pt hF rfl rfl
theorem qg12_23 (hF : p + 25 ≤ h.length) : gfI 12 23 p (pt sX12 p D h) = some (oi D 23) := gfI_pt hF rfl rfl
theorem qs12_23 (hF : p + 25 ≤ h.length) {v : Int32} : pfV 12 23 p (.int v) (pt sX12 p D h) = some (pt sX12 p (si D 23 v) h) := pfI_pt hF rfl rfl
theorem qg12_24 (hF : p + 25 ≤ h.length) : gfI 12 24 p (pt sX12 p D h) = some (oi D 24) := gfI_pt hF rfl rfl
theorem qs12_24 (hF : p + 25 ≤ h.length) {v : Int32} : pfV 12 24 p (.int v) (pt sX12 p D h) = some (pt sX12 p (si D 24 v) h) := pfI_pt hF rfl rfl
theorem qg12_25 (hF : p + 25 ≤ h.length) : gfI 12 25 p (pt sX12 p D h) = some (oi D 25) := gfI_pt hF rfl rfl
theorem qs12_25 (hF : p + 25 ≤ h.length) {v : Int32} : pfV 12 25 p (.int v) (pt sX12 p D h) = some (pt sX12 p (si D 25 v) h) := pfI_pt hF rfl rfl
theorem qg12_26 (hF : p + 25 ≤ h.length) : gfI 12 26 p (pt sX12 p D h) = some (oi D 26) := gfI_pt hF rfl rfl
theorem qs12_26 (hF : p + 25 ≤ h.length) {v : Int32} : pfV 12 26 p (.int v) (pt sX12 p D h) = some (pt sX12 p (si D 26 v) h) := pfI_pt hF rfl rfl
theorem qg12_27 (hF : p + 25 ≤ h.length) : gfI 12 27 p (pt sX12 p D h) = some (oi D 27) := gfI_pt hF rfl rfl
theorem qs12_27 (hF : p + 25 ≤ h.length) {v : Int32} : pfV 12 27 p (.int v) (pt sX12 p D h) = some (pt sX12 p (si D 27 v) h) := pfI_pt hF rfl rfl
theorem qg12_28 (hF : p + 25 ≤ h.length) : gfI 12 28 p (pt sX12 p D h) = some (oi D 28) := gfI_pt hF rfl rfl
theorem qs12_28 (hF : p + 25 ≤ h.length) {v : Int32} : pfV 12 28 p (.int v) (pt sX12 p D h) = some (pt sX12 p (si D 28 v) h) := pfI_pt hF rfl rfl
theorem qg12_29 (hF : p + 25 ≤ h.length) : gfR 12 29 p (pt sX12 p D h) = some (pl p 16) := gfR_pt hF rfl rfl
theorem qg12_30 (hF : p + 25 ≤ h.length) : gfI 12 30 p (pt sX12 p D h) = some (oi D 30) := gfI_pt hF rfl rfl
theorem qs12_30 (hF : p + 25 ≤ h.length) {v : Int32} : pfV 12 30 p (.int v) (pt sX12 p D h) = some (pt sX12 p (si D 30 v) h) := pfI_pt hF rfl rfl
theorem qg12_31 (hF : p + 25 ≤ h.length) : gfR 12 31 p (pt sX12 p D h) = some (pl p 17) := gfR_pt hF rfl rfl
theorem qg12_32 (hF : p + 25 ≤ h.length) : gfR 12 32 p (pt sX12 p D h) = some (pl p 18) := gfR_pt hF rfl rfl
theorem qg12_33 (hF : p + 25 ≤ h.length) : gfR 12 33 p (pt sX12 p D h) = some (pl p 19) := gfR_pt hF rfl rfl
theorem qg12_34 (hF : p + 25 ≤ h.length) : gfR 12 34 p (pt sX12 p D h) = some (pl p 20) := gfR_pt hF rfl rfl
theorem qg12_35 (hF : p + 25 ≤ h.length) : gfR 12 35 p (pt sX12 p D h) = some (pl p 21) := gfR_pt hF rfl rfl
theorem qg12_36 (hF : p + 25 ≤ h.length) : gfI 12 36 p (pt sX12 p D h) = some (oi D 36) := gfI_pt hF rfl rfl
theorem qs12_36 (hF : p + 25 ≤ h.length) {v : Int32} : pfV 12 36 p (.int v) (pt sX12 p D h) = some (pt sX12 p (si D 36 v) h) := pfI_pt hF rfl rfl
theorem qg12_37 (hF : p + 25 ≤ h.length) : gfI 12 37 p (pt sX12 p D h) = some (oi D 37) := gfI_pt hF rfl rfl
theorem qs12_37 (hF : p + 25 ≤ h.length) {v : Int32} : pfV 12 37 p (.int v) (pt sX12 p D h) = some (pt sX12 p (si D 37 v) h) := pfI_pt hF rfl rfl
theorem qg12_38 (hF : p + 25 ≤ h.length) : gfI 12 38 p (pt sX12 p D h) = some (oi D 38) := gfI_pt hF rfl rfl
theorem qs12_38 (hF : p + 25 ≤ h.length) {v : Int32} : pfV 12 38 p (.int v) (pt sX12 p D h) = some (pt sX12 p (si D 38 v) h) := pfI_pt hF rfl rfl
theorem qg12_39 (hF : p + 25 ≤ h.length) : gfI 12 39 p (pt sX12 p D h) = some (oi D 39) := gfI_pt hF rfl rfl
theorem qs12_39 (hF : p + 25 ≤ h.length) {v : Int32} : pfV 12 39 p (.int v) (pt sX12 p D h) = some (pt sX12 p (si D 39 v) h) := pfI_pt hF rfl rfl
theorem qg12_40 (hF : p + 25 ≤ h.length) : gfI 12 40 p (pt sX12 p D h) = some (oi D 40) := gfI_pt hF rfl rfl
theorem qs12_40 (hF : p + 25 ≤ h.length) {v : Int32} : pfV 12 40 p (.int v) (pt sX12 p D h) = some (pt sX12 p (si D 40 v) h) := pfI_pt hF rfl rfl
theorem qg12_41 (hF : p + 25 ≤ h.length) : gfR 12 41 p (pt sX12 p D h) = some (pl p 22) := gfR_pt hF rfl rfl
theorem qg12_42 (hF : p + 25 ≤ h.length) : gfI 12 42 p (pt sX12 p D h) = some (oi D 42) := gfI_pt hF rfl rfl
theorem qs12_42 (hF : p + 25 ≤ h.length) {v : Int32} : pfV 12 42 p (.int v) (pt sX12 p D h) = some (pt sX12 p (si D 42 v) h) := pfI_pt hF rfl rfl
theorem qg12_43 (hF : p + 25 ≤ h.length) : gfI 12 43 p (pt sX12 p D h) = some (oi D 43) := gfI_pt hF rfl rfl
theorem qs12_43 (hF : p + 25 ≤ h.length) {v : Int32} : pfV 12 43 p (.int v) (pt sX12 p D h) = some (pt sX12 p (si D 43 v) h) := pfI_pt hF rfl rfl
theorem qg12_44 (hF : p + 25 ≤ h.length) : gfI 12 44 p (pt sX12 p D h) = some (oi D 44) := gfI_pt hF rfl rfl
theorem qs12_44 (hF : p + 25 ≤ h.length) {v : Int32} : pfV 12 44 p (.int v) (pt sX12 p D h) = some (pt sX12 p (si D 44 v) h) := pfI_pt hF rfl rfl
theorem qg12_45 (hF : p + 25 ≤ h.length) : gfI 12 45 p (pt sX12 p D h) = some (oi D 45) := gfI_pt hF rfl rfl
theorem qs12_45 (hF : p + 25 ≤ h.length) {v : Int32} : pfV 12 45 p (.int v) (pt sX12 p D h) = some (pt sX12 p (si D 45 v) h) := pfI_pt hF rfl rfl
theorem qg12_46 (hF : p + 25 ≤ h.length) : gfI 12 46 p (pt sX12 p D h) = some (oi D 46) := gfI_pt hF rfl rfl
theorem qs12_46 (hF : p + 25 ≤ h.length) {v : Int32} : pfV 12 46 p (.int v) (pt sX12 p D h) = some (pt sX12 p (si D 46 v) h) := pfI_pt hF rfl rfl
theorem qg12_47 (hF : p + 25 ≤ h.length) : gfR 12 47 p (pt sX12 p D h) = some (pl p 23) := gfR_pt hF rfl rfl
theorem qa12_1 (hF : p + 25 ≤ h.length) {i : Int32} (hi : ixok i 1000) : arI 0 (pl p 0) i (pt sX12 p D h) = some (oa D 1 i.toNatClampNeg) := arI_pt hF rfl hi
theorem qe12_1 (hF : p + 25 ≤ h.length) {i x : Int32} (hi : ixok i 1000) : asI 0 (pl p 0) i x (pt sX12 p D h) = some (pt sX12 p (sa D 1 (upd (oa D 1) i.toNatClampNeg (x))) h) := asI_pt hF w12 rfl hi
theorem ql12_1 (hF : p + 25 ≤ h.length) : alen 0 (pl p 0) (pt sX12 p D h) = some (Int32.ofNat 1000) := alen_pt hF rfl
theorem qa12_4 (hF : p + 25 ≤ h.length) {i : Int32} (hi : ixok i 1002) : arI 0 (pl p 1) i (pt sX12 p D h) = some (oa D 4 i.toNatClampNeg) := arI_pt hF rfl hi
theorem qe12_4 (hF : p + 25 ≤ h.length) {i x : Int32} (hi : ixok i 1002) : asI 0 (pl p 1) i x (pt sX12 p D h) = some (pt sX12 p (sa D 4 (upd (oa D 4) i.toNatClampNeg (x))) h) := asI_pt hF w12 rfl hi
theorem ql12_4 (hF : p + 25 ≤ h.length) : alen 0 (pl p 1) (pt sX12 p D h) = some (Int32.ofNat 1002) := alen_pt hF rfl
theorem qa12_5 (hF : p + 25 ≤ h.length) {i : Int32} (hi : ixok i 1002) : arI 0 (pl p 2) i (pt sX12 p D h) = some (oa D 5 i.toNatClampNeg) := arI_pt hF rfl hi
theorem qe12_5 (hF : p + 25 ≤ h.length) {i x : Int32} (hi : ixok i 1002) : asI 0 (pl p 2) i x (pt sX12 p D h) = some (pt sX12 p (sa D 5 (upd (oa D 5) i.toNatClampNeg (x))) h) := asI_pt hF w12 rfl hi
theorem ql12_5 (hF : p + 25 ≤ h.length) : alen 0 (pl p 2) (pt sX12 p D h) = some (Int32.ofNat 1002) := alen_pt hF rfl
theorem qa12_6 (hF : p + 25 ≤ h.length) {i : Int32} (hi : ixok i 1002) : arL 1 (pl p 3) i (pt sX12 p D h) = some (om D 6 i.toNatClampNeg) := arL_pt hF rfl hi
theorem qe12_6 (hF : p + 25 ≤ h.length) {i : Int32} {x : Int64} (hi : ixok i 1002) : asL 1 (pl p 3) i x (pt sX12 p D h) = some (pt sX12 p (sm D 6 (vp_updL (om D 6) i.toNatClampNeg x)) h) := asL_pt hF w12 rfl hi
theorem ql12_6 (hF : p + 25 ≤ h.length) : alen 1 (pl p 3) (pt sX12 p D h) = some (Int32.ofNat 1002) := alen_pt hF rfl
theorem qa12_9 (hF : p + 25 ≤ h.length) {i : Int32} (hi : ixok i 14) : arL 1 (pl p 4) i (pt sX12 p D h) = some (om D 9 i.toNatClampNeg) := arL_pt hF rfl hi
theorem qe12_9 (hF : p + 25 ≤ h.length) {i : Int32} {x : Int64} (hi : ixok i 14) : asL 1 (pl p 4) i x (pt sX12 p D h) = some (pt sX12 p (sm D 9 (vp_updL (om D 9) i.toNatClampNeg x)) h) := asL_pt hF w12 rfl hi
theorem ql12_9 (hF : p + 25 ≤ h.length) : alen 1 (pl p 4) (pt sX12 p D h) = some (Int32.ofNat 14) := alen_pt hF rfl
theorem qa12_10 (hF : p + 25 ≤ h.length) {i : Int32} (hi : ixok i 120) : arI 0 (pl p 5) i (pt sX12 p D h) = some (oa D 10 i.toNatClampNeg) := arI_pt hF rfl hi
theorem qe12_10 (hF : p + 25 ≤ h.length) {i x : Int32} (hi : ixok i 120) : asI 0 (pl p 5) i x (pt sX12 p D h) = some (pt sX12 p (sa D 10 (upd (oa D 10) i.toNatClampNeg (x))) h) := asI_pt hF w12 rfl hi
theorem ql12_10 (hF : p + 25 ≤ h.length) : alen 0 (pl p 5) (pt sX12 p D h) = some (Int32.ofNat 120) := alen_pt hF rfl
theorem qa12_11 (hF : p + 25 ≤ h.length) {i : Int32} (hi : ixok i 2200) : arI 0 (pl p 6) i (pt sX12 p D h) = some (oa D 11 i.toNatClampNeg) := arI_pt hF rfl hi
theorem qe12_11 (hF : p + 25 ≤ h.length) {i x : Int32} (hi : ixok i 2200) : asI 0 (pl p 6) i x (pt sX12 p D h) = some (pt sX12 p (sa D 11 (upd (oa D 11) i.toNatClampNeg (x))) h) := asI_pt hF w12 rfl hi
theorem ql12_11 (hF : p + 25 ≤ h.length) : alen 0 (pl p 6) (pt sX12 p D h) = some (Int32.ofNat 2200) := alen_pt hF rfl
theorem qa12_12 (hF : p + 25 ≤ h.length) {i : Int32} (hi : ixok i 2200) : arI 0 (pl p 7) i (pt sX12 p D h) = some (oa D 12 i.toNatClampNeg) := arI_pt hF rfl hi
theorem qe12_12 (hF : p + 25 ≤ h.length) {i x : Int32} (hi : ixok i 2200) : asI 0 (pl p 7) i x (pt sX12 p D h) = some (pt sX12 p (sa D 12 (upd (oa D 12) i.toNatClampNeg (x))) h) := asI_pt hF w12 rfl hi
theorem ql12_12 (hF : p + 25 ≤ h.length) : alen 0 (pl p 7) (pt sX12 p D h) = some (Int32.ofNat 2200) := alen_pt hF rfl
theorem qa12_14 (hF : p + 25 ≤ h.length) {i : Int32} (hi : ixok i 10) : arL 1 (pl p 8) i (pt sX12 p D h) = some (om D 14 i.toNatClampNeg) := arL_pt hF rfl hi
theorem qe12_14 (hF : p + 25 ≤ h.length) {i : Int32} {x : Int64} (hi : ixok i 10) : asL 1 (pl p 8) i x (pt sX12 p D h) = some (pt sX12 p (sm D 14 (vp_updL (om D 14) i.toNatClampNeg x)) h) := asL_pt hF w12 rfl hi
theorem ql12_14 (hF : p + 25 ≤ h.length) : alen 1 (pl p 8) (pt sX12 p D h) = some (Int32.ofNat 10) := alen_pt hF rfl
theorem qa12_15 (hF : p + 25 ≤ h.length) {i : Int32} (hi : ixok i 8) : arI 0 (pl p 9) i (pt sX12 p D h) = some (oa D 15 i.toNatClampNeg) := arI_pt hF rfl hi
theorem qe12_15 (hF : p + 25 ≤ h.length) {i x : Int32} (hi : ixok i 8) : asI 0 (pl p 9) i x (pt sX12 p D h) = some (pt sX12 p (sa D 15 (upd (oa D 15) i.toNatClampNeg (x))) h) := asI_pt hF w12 rfl hi
theorem ql12_15 (hF : p + 25 ≤ h.length) : alen 0 (pl p 9) (pt sX12 p D h) = some (Int32.ofNat 8) := alen_pt hF rfl
theorem qa12_16 (hF : p + 25 ≤ h.length) {i : Int32} (hi : ixok i 1100) : arI 0 (pl p 10) i (pt sX12 p D h) = some (oa D 16 i.toNatClampNeg) := arI_pt hF rfl hi
theorem qe12_16 (hF : p + 25 ≤ h.length) {i x : Int32} (hi : ixok i 1100) : asI 0 (pl p 10) i x (pt sX12 p D h) = some (pt sX12 p (sa D 16 (upd (oa D 16) i.toNatClampNeg (x))) h) := asI_pt hF w12 rfl hi
theorem ql12_16 (hF : p + 25 ≤ h.length) : alen 0 (pl p 10) (pt sX12 p D h) = some (Int32.ofNat 1100) := alen_pt hF rfl
theorem qa12_17 (hF : p + 25 ≤ h.length) {i : Int32} (hi : ixok i 2600) : arI 0 (pl p 11) i (pt sX12 p D h) = some (oa D 17 i.toNatClampNeg) := arI_pt hF rfl hi
theorem qe12_17 (hF : p + 25 ≤ h.length) {i x : Int32} (hi : ixok i 2600) : asI 0 (pl p 11) i x (pt sX12 p D h) = some (pt sX12 p (sa D 17 (upd (oa D 17) i.toNatClampNeg (x))) h) := asI_pt hF w12 rfl hi
theorem ql12_17 (hF : p + 25 ≤ h.length) : alen 0 (pl p 11) (pt sX12 p D h) = some (Int32.ofNat 2600) := alen_pt hF rfl
theorem qa12_19 (hF : p + 25 ≤ h.length) {i : Int32} (hi : ixok i 10) : arI 0 (pl p 12) i (pt sX12 p D h) = some (oa D 19 i.toNatClampNeg) := arI_pt hF rfl hi
theorem qe12_19 (hF : p + 25 ≤ h.length) {i x : Int32} (hi : ixok i 10) : asI 0 (pl p 12) i x (pt sX12 p D h) = some (pt sX12 p (sa D 19 (upd (oa D 19) i.toNatClampNeg (x))) h) := asI_pt hF w12 rfl hi
theorem ql12_19 (hF : p + 25 ≤ h.length) : alen 0 (pl p 12) (pt sX12 p D h) = some (Int32.ofNat 10) := alen_pt hF rfl
theorem qa12_20 (hF : p + 25 ≤ h.length) {i : Int32} (hi : ixok i 10) : arI 0 (pl p 13) i (pt sX12 p D h) = some (oa D 20 i.toNatClampNeg) := arI_pt hF rfl hi
theorem qe12_20 (hF : p + 25 ≤ h.length) {i x : Int32} (hi : ixok i 10) : asI 0 (pl p 13) i x (pt sX12 p D h) = some (pt sX12 p (sa D 20 (upd (oa D 20) i.toNatClampNeg (x))) h) := asI_pt hF w12 rfl hi
theorem ql12_20 (hF : p + 25 ≤ h.length) : alen 0 (pl p 13) (pt sX12 p D h) = some (Int32.ofNat 10) := alen_pt hF rfl
theorem qa12_21 (hF : p + 25 ≤ h.length) {i : Int32} (hi : ixok i 10) : arI 0 (pl p 14) i (pt sX12 p D h) = some (oa D 21 i.toNatClampNeg) := arI_pt hF rfl hi
theorem qe12_21 (hF : p + 25 ≤ h.length) {i x : Int32} (hi : ixok i 10) : asI 0 (pl p 14) i x (pt sX12 p D h) = some (pt sX12 p (sa D 21 (upd (oa D 21) i.toNatClampNeg (x))) h) := asI_pt hF w12 rfl hi
theorem ql12_21 (hF : p + 25 ≤ h.length) : alen 0 (pl p 14) (pt sX12 p D h) = some (Int32.ofNat 10) := alen_pt hF rfl
theorem qa12_22 (hF : p + 25 ≤ h.length) {i : Int32} (hi : ixok i 10) : arI 3 (pl p 15) i (pt sX12 p D h) = some (oa D 22 i.toNatClampNeg) := arI_pt hF rfl hi
theorem qe12_22 (hF : p + 25 ≤ h.length) {i x : Int32} (hi : ixok i 10) : asI 3 (pl p 15) i x (pt sX12 p D h) = some (pt sX12 p (sa D 22 (upd (oa D 22) i.toNatClampNeg (gnar 3 x))) h) := asI_pt hF w12 rfl hi
theorem ql12_22 (hF : p + 25 ≤ h.length) : alen 3 (pl p 15) (pt sX12 p D h) = some (Int32.ofNat 10) := alen_pt hF rfl
theorem qa12_29 (hF : p + 25 ≤ h.length) {i : Int32} (hi : ixok i 5500) : arI 0 (pl p 16) i (pt sX12 p D h) = some (oa D 29 i.toNatClampNeg) := arI_pt hF rfl hi
theorem qe12_29 (hF : p + 25 ≤ h.length) {i x : Int32} (hi : ixok i 5500) : asI 0 (pl p 16) i x (pt sX12 p D h) = some (pt sX12 p (sa D 29 (upd (oa D 29) i.toNatClampNeg (x))) h) := asI_pt hF w12 rfl hi
theorem ql12_29 (hF : p + 25 ≤ h.length) : alen 0 (pl p 16) (pt sX12 p D h) = some (Int32.ofNat 5500) := alen_pt hF rfl
theorem qa12_31 (hF : p + 25 ≤ h.length) {i : Int32} (hi : ixok i 1024) : arL 1 (pl p 17) i (pt sX12 p D h) = some (om D 31 i.toNatClampNeg) := arL_pt hF rfl hi
theorem qe12_31 (hF : p + 25 ≤ h.length) {i : Int32} {x : Int64} (hi : ixok i 1024) : asL 1 (pl p 17) i x (pt sX12 p D h) = some (pt sX12 p (sm D 31 (vp_updL (om D 31) i.toNatClampNeg x)) h) := asL_pt hF w12 rfl hi
theorem ql12_31 (hF : p + 25 ≤ h.length) : alen 1 (pl p 17) (pt sX12 p D h) = some (Int32.ofNat 1024) := alen_pt hF rfl
theorem qa12_32 (hF : p + 25 ≤ h.length) {i : Int32} (hi : ixok i 7) : arI 0 (pl p 18) i (pt sX12 p D h) = some (oa D 32 i.toNatClampNeg) := arI_pt hF rfl hi
theorem qe12_32 (hF : p + 25 ≤ h.length) {i x : Int32} (hi : ixok i 7) : asI 0 (pl p 18) i x (pt sX12 p D h) = some (pt sX12 p (sa D 32 (upd (oa D 32) i.toNatClampNeg (x))) h) := asI_pt hF w12 rfl hi
theorem ql12_32 (hF : p + 25 ≤ h.length) : alen 0 (pl p 18) (pt sX12 p D h) = some (Int32.ofNat 7) := alen_pt hF rfl
theorem qa12_33 (hF : p + 25 ≤ h.length) {i : Int32} (hi : ixok i 7) : arI 0 (pl p 19) i (pt sX12 p D h) = some (oa D 33 i.toNatClampNeg) := arI_pt hF rfl hi
theorem qe12_33 (hF : p + 25 ≤ h.length) {i x : Int32} (hi : ixok i 7) : asI 0 (pl p 19) i x (pt sX12 p D h) = some (pt sX12 p (sa D 33 (upd (oa D 33) i.toNatClampNeg (x))) h) := asI_pt hF w12 rfl hi
theorem ql12_33 (hF : p + 25 ≤ h.length) : alen 0 (pl p 19) (pt sX12 p D h) = some (Int32.ofNat 7) := alen_pt hF rfl
theorem qa12_34 (hF : p + 25 ≤ h.length) {i : Int32} (hi : ixok i 7) : arI 0 (pl p 20) i (pt sX12 p D h) = some (oa D 34 i.toNatClampNeg) := arI_pt hF rfl hi
theorem qe12_34 (hF : p + 25 ≤ h.length) {i x : Int32} (hi : ixok i 7) : asI 0 (pl p 20) i x (pt sX12 p D h) = some (pt sX12 p (sa D 34 (upd (oa D 34) i.toNatClampNeg (x))) h) := asI_pt hF w12 rfl hi
theorem ql12_34 (hF : p + 25 ≤ h.length) : alen 0 (pl p 20) (pt sX12 p D h) = some (Int32.ofNat 7) := alen_pt hF rfl
theorem qa12_35 (hF : p + 25 ≤ h.length) {i : Int32} (hi : ixok i 7) : arI 0 (pl p 21) i (pt sX12 p D h) = some (oa D 35 i.toNatClampNeg) := arI_pt hF rfl hi
theorem qe12_35 (hF : p + 25 ≤ h.length) {i x : Int32} (hi : ixok i 7) : asI 0 (pl p 21) i x (pt sX12 p D h) = some (pt sX12 p (sa D 35 (upd (oa D 35) i.toNatClampNeg (x))) h) := asI_pt hF w12 rfl hi
theorem ql12_35 (hF : p + 25 ≤ h.length) : alen 0 (pl p 21) (pt sX12 p D h) = some (Int32.ofNat 7) := alen_pt hF rfl
theorem qa12_41 (hF : p + 25 ≤ h.length) {i : Int32} (hi : ixok i 7) : arI 0 (pl p 22) i (pt sX12 p D h) = some (oa D 41 i.toNatClampNeg) := arI_pt hF rfl hi
theorem qe12_41 (hF : p + 25 ≤ h.length) {i x : Int32} (hi : ixok i 7) : asI 0 (pl p 22) i x (pt sX12 p D h) = some (pt sX12 p (sa D 41 (upd (oa D 41) i.toNatClampNeg (x))) h) := asI_pt hF w12 rfl hi
theorem ql12_41 (hF : p + 25 ≤ h.length) : alen 0 (pl p 22) (pt sX12 p D h) = some (Int32.ofNat 7) := alen_pt hF rfl
theorem qa12_47 (hF : p + 25 ≤ h.length) {i : Int32} (hi : ixok i 4) : arI 3 (pl p 23) i (pt sX12 p D h) = some (oa D 47 i.toNatClampNeg) := arI_pt hF rfl hi
theorem qe12_47 (hF : p + 25 ≤ h.length) {i x : Int32} (hi : ixok i 4) : asI 3 (pl p 23) i x (pt sX12 p D h) = some (pt sX12 p (sa D 47 (upd (oa D 47) i.toNatClampNeg (gnar 3 x))) h) := asI_pt hF w12 rfl hi
theorem ql12_47 (hF : p + 25 ≤ h.length) : alen 3 (pl p 23) (pt sX12 p D h) = some (Int32.ofNat 4) := alen_pt hF rfl
end Prims

