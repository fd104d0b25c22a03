/-! THE CLAIM OUT OF ONE WALK OF THE LAW'S BODY. Your part is whole_start (and what it stands on); all else here is the same for every law, but numbers. -/
def R_law : String := "MoveInnLaw"
def lw_P (b : Addr) (xs : List Int32) (args : Array Value) (s : State) : Prop := args = #[.ref b] ∧ s.IntsAt b xs ∧ xs.length ≤ 3584 ∧ (Jvm.Cond.and given_1 narrow_1).before args s = true
def lw_Q (_ : Array Value) (s : State) (o : Outcome) (t : State) : Prop := o = .returned (some (.int 1)) ∧ Framed s o t [] 601024 7293034
def lw_Z (below : List Frame) (a : Array Value) (s : State) : State → Prop := fun t => ∃ o, t.status = .running ∧ Ended t below o ∧ lw_Q a s o t
/-- the law's own end, with 1 on the stack, nothing written that was there before, its room as the claim has it -/
theorem lw_ret {p : Program} {l : Launch} {e : Env} {s : State} {m : MethodId} {below : List Frame} {meth : Method} {c : Code} {b : Nat} (hx : p.tables.exec = Jvm.exec) (hb : c.code = code) (hr : meth.sig.returnType = ret) (hlocks : meth.locks = false) {pc : Nat} {H : Heap} {ls : Array Slot} (hdg : decode code pc = .ok (.ireturn, 1)) : W p l e room_1 s m #[Value.ref b] below meth c H [] 601024 7293034 (lw_Z below #[Value.ref b] s) (F0 m pc ls [.int 1]) := by
  intro T hT X
  obtain ⟨fs, hret, hrun, hended, hW, hframe⟩ := X.leave (v := some (.int 1)) (hlocks := hlocks) (fun h => by rw [hr] at h; cases h)
  have hmeth' : T.vm.method? m = some meth := X.method'
  refine ⟨T.setFrames fs, ?_, .returned (some (.int 1)), hrun, hended, rfl, ⟨_, rfl⟩, hW, hframe⟩
  jvm_step X.here [X.here.top, hx, hb, hdg, hmeth', hr, ret, narrow_b1]
  (try refine ⟨rfl, ?_⟩); (try refine ⟨rfl, ?_⟩)
  first | (intro acts; rw [hret _ acts rfl rfl rfl]) | rw [hret _ _ rfl rfl rfl]
  exact Steps.refl _
/-- what holds at the law's entry: the machine, the code, the tables' words (any of lw_tbl by 'hts w (by decide +kernel)'), the script of L ints xs at the cell b, what the Statement gives of the start (any of its parts by flat_of_before) -/
def lw_At (p : Program) (s : State) (m : MethodId) (meth : Method) (c : Code) (b L : Nat) (xs : Nat → Int32) : Prop :=
  p.tables.exec = Jvm.exec ∧ c.code = code ∧ meth.sig.returnType = ret ∧ c.maxLocals = 7 ∧ s.vm.findClass R_law = some m.cls ∧ (∀ w ∈ lw_tbl, w.before #[Value.ref b] s = true) ∧ va_X b L xs s s.heap ∧ b < s.heap.size ∧ meth.locks = false ∧ (Jvm.Cond.and given_1 narrow_1).before #[Value.ref b] s = true
set_option maxHeartbeats 8000000 in
set_option maxRecDepth 100000 in
theorem law_walk {p : Program} {l : Launch} {e : Env} {s : State} {m : MethodId} {below : List Frame} {meth : Method} {c : Code} {zb : Nat} (hst : l.stackTraces = false) (E : gE) (N zL : Nat) (zxs : Nat → Int32) {h9 : PH} (hf : f_L_law N zL zxs [] = some (1, h9)) (X : gX E p s m #[Value.ref zb] c cL_law 7 RL) (hr : meth.sig.returnType = ret) (hlk : meth.locks = false) (hX : va_X zb zL zxs s s.heap) (hbl : zb < s.heap.size) (hB : gB E = s.heap.size) (hw : gw E s [] s.heap []) : W p l e room_1 s m #[Value.ref zb] below meth c s.heap [] 0 0 (lw_Z below #[Value.ref zb] s) (entryFrame m ([Value.ref zb] : List Value).toArray 7) := by
  have hx := X.1.1
  have hb := X.1.2.1
  have hbA : ¬ gA E zb := by show ¬ gB E ≤ zb; rw [hB]; exact Nat.not_le.mpr hbl
  have hl := lv_entry [.ref zb] (n := 7) (Nat.le_of_ble_eq_true rfl)
  rw [lg_entry_eq]
  generalize (lg_sl [.ref zb] ++ List.replicate (7 - (lg_sl [.ref zb]).length) Slot.unset).toArray = ls at hl ⊢
  have hl : lv_has ls 7 [(0, .ref zb)] := hl
  have L_23 : ∀ (zn23 : Nat) (zv0 : Nat) (zv1 : Nat) (zv2 : Nat) (zv3 : Nat) (zv4 : Int32) (zh : PH) (H : Heap) (locs : List Loc) (ls : Array Slot), zn23 ≤ 513 → gi (fun zk zs => f_L_law_23 N zL zxs zk zs.1 zs.2.1 zs.2.2.1 zs.2.2.2.1 zs.2.2.2.2.1 zs.2.2.2.2.2) zn23 (zv0, zv1, zv2, zv3, zv4, zh) = some (1, h9) → gw E s zh H locs → lv_has ls 7 [(0, .ref zb), (1, .ref (gB E + zv1)), (2, .ref (gB E + zv2)), (3, .ref (gB E + zv3)), (4, .int zv4)] → W p l e room_1 s m #[Value.ref zb] below meth c H locs (111 + 52 * (513 - zn23)) (24833 + 1512 * (513 - zn23)) (lw_Z below #[Value.ref zb] s) (F0 m 23 ls []) := by
    intro zn23
    induction zn23 with
    | zero =>
      intro zv0 zv1 zv2 zv3 zv4 zh H locs ls _ hf
      cases hf
    | succ zn23 ih_23 =>
      rcases Nat.lt_or_ge 513 (zn23 + 1) with hcap0 | hcap0
      · intro zv0 zv1 zv2 zv3 zv4 zh H locs ls hcap9
        exact absurd hcap9 (Nat.not_le.mpr hcap0)
      have J_1264 : ∀ (zv0 : Nat) (zv1 : Nat) (zv2 : Nat) (zv3 : Nat) (zv4 : Int32) (zh : PH) (H : Heap) (locs : List Loc) (ls : Array Slot), f_L_law_1264 N zL zxs (gi (fun zk zs => f_L_law_23 N zL zxs zk zs.1 zs.2.1 zs.2.2.1 zs.2.2.2.1 zs.2.2.2.2.1 zs.2.2.2.2.2) zn23) zv0 zv1 zv2 zv3 zv4 zh = some (1, h9) → gw E s zh H locs → lv_has ls 7 [(0, .ref zb), (1, .ref (gB E + zv1)), (2, .ref (gB E + zv2)), (3, .ref (gB E + zv3)), (4, .int zv4)] → W p l e room_1 s m #[Value.ref zb] below meth c H locs (111 + 52 * (513 - (zn23 + 1)) + 52) (24833 + 1512 * (513 - (zn23 + 1)) + 1512) (lw_Z below #[Value.ref zb] s) (F0 m 1264 ls []) := by
        intro zv0 zv1 zv2 zv3 zv4 zh H locs ls hf hw hl
        unfold f_L_law_1264 at hf
        obtain ⟨zx1, ezx1⟩ : ∃ y : Int32, y = zv4 + 7 := ⟨_, rfl⟩
        have hf := gl_el hf ezx1
        refine lv_iinc (v := zx1) (lv' := [(4, .int zx1), (0, .ref zb), (1, .ref (gB E + zv1)), (2, .ref (gB E + zv2)), (3, .ref (gB E + zv3))]) hx hb dL_law_1264 hl (k := 4) rfl (by rw [ezx1]; rfl) (by decide) rfl (fun ls hl => ?_)
        refine lv_goto (tgt := 23) hx hb dL_law_1267 (by decide) ?_
        refine W.widen (k := 111 + 52 * (513 - zn23)) (n := 24833 + 1512 * (513 - zn23)) (by omega) (by omega) ?_
        exact ih_23 zv0 zv1 zv2 zv3 zx1 _ _ _ ls (by omega) hf hw (lv_sub hl [1, 2, 3, 4, 0] rfl)
      have J_1231 : ∀ (zv0 : Nat) (zv1 : Nat) (zv2 : Nat) (zv3 : Nat) (zv4 : Int32) (zs0 : Int32) (zs1 : Int32) (zs2 : Nat) (zs3 : Int32) (zh : PH) (H : Heap) (locs : List Loc) (ls : Array Slot), f_L_law_1231 N zL zxs (gi (fun zk zs => f_L_law_23 N zL zxs zk zs.1 zs.2.1 zs.2.2.1 zs.2.2.2.1 zs.2.2.2.2.1 zs.2.2.2.2.2) zn23) zv0 zv1 zv2 zv3 zv4 zs0 zs1 zs2 zs3 zh = some (1, h9) → gw E s zh H locs → lv_has ls 7 [(0, .ref zb), (1, .ref (gB E + zv1)), (2, .ref (gB E + zv2)), (3, .ref (gB E + zv3)), (4, .int zv4)] → W p l e room_1 s m #[Value.ref zb] below meth c H locs (111 + 52 * (513 - (zn23 + 1)) + 52) (24833 + 1512 * (513 - (zn23 + 1)) + 1512) (lw_Z below #[Value.ref zb] s) (F0 m 1231 ls [.int zs0, .int zs1, .ref (gB E + zs2), .int zs3]) := by
        intro zv0 zv1 zv2 zv3 zv4 zs0 zs1 zs2 zs3 zh H locs ls hf hw hl
        unfold f_L_law_1231 at hf
        obtain ⟨qizh1, hf⟩ := gg_el hf
        obtain ⟨zt2, zh1, qzh1, hf⟩ := gc_el hf
        refine gx_ki (gx_runV (As := [.int zs1, .int zs0]) (rest := [.int zs3]) X hw (c_X12_mark l E N zs2 zs1 zs0 zh qzh1) kX12_mark mm_L_149 qizh1 clX12 ⟨by dsimp only [room_1, rm_X12_mark]; omega, by dsimp only [room_1, rm_X12_mark]; omega⟩ rfl rfl rfl hl.1 (Nat.le_of_ble_eq_true rfl) rfl dL_law_1231 ⟨by dsimp only [room_1]; omega, by dsimp only [room_1]; omega⟩) hw (fun H locs hw => ?_)
        refine lv_icmp_eq (tgt := 1264) hx hb dL_law_1234 (by decide) (fun qc3 => ?_) (fun qc3 => ?_)
        · have hf := gif_t hf qc3
          refine W.widen (k := 111 + 52 * (513 - (zn23 + 1)) + 52) (n := 24833 + 1512 * (513 - (zn23 + 1)) + 1512) (by omega) (by omega) ?_
          exact J_1264 zv0 zv1 zv2 zv3 zv4 _ _ _ ls hf hw (lv_sub hl [0, 1, 2, 3, 4] rfl)
        · have hf := gif_f hf qc3
          refine lv_iconst (v := 0) hx hb dL_law_1237 (by decide) ?_
          exact absurd (Prod.mk.inj (Option.some.inj hf)).1 (by decide)
      have J_1207 : ∀ (zv0 : Nat) (zv1 : Nat) (zv2 : Nat) (zv3 : Nat) (zv4 : Int32) (zs0 : Int32) (zs1 : Int32) (zs2 : Nat) (zh : PH) (H : Heap) (locs : List Loc) (ls : Array Slot), f_L_law_1207 N zL zxs (gi (fun zk zs => f_L_law_23 N zL zxs zk zs.1 zs.2.1 zs.2.2.1 zs.2.2.2.1 zs.2.2.2.2.1 zs.2.2.2.2.2) zn23) zv0 zv1 zv2 zv3 zv4 zs0 zs1 zs2 zh = some (1, h9) → gw E s zh H locs → lv_has ls 7 [(0, .ref zb), (1, .ref (gB E + zv1)), (2, .ref (gB E + zv2)), (3, .ref (gB E + zv3)), (4, .int zv4)] → W p l e room_1 s m #[Value.ref zb] below meth c H locs (111 + 52 * (513 - (zn23 + 1)) + 0) (24833 + 1512 * (513 - (zn23 + 1)) + 0) (lw_Z below #[Value.ref zb] s) (F0 m 1207 ls [.int zs0, .int zs1, .ref (gB E + zs2)]) := by
        intro zv0 zv1 zv2 zv3 zv4 zs0 zs1 zs2 zh H locs ls hf hw hl
        unfold f_L_law_1207 at hf
        obtain ⟨qizh1, hf⟩ := gg_el hf
        obtain ⟨zt2, zh1, qzh1, hf⟩ := gc_el hf
        refine gx_ki (gx_runV (As := [.int zs1, .int zs0]) (rest := []) X hw (c_X11_mark l E N zs2 zs1 zs0 zh qzh1) kX11_mark mm_L_145 qizh1 clX11 ⟨by dsimp only [room_1, rm_X11_mark]; omega, by dsimp only [room_1, rm_X11_mark]; omega⟩ rfl rfl rfl hl.1 (Nat.le_of_ble_eq_true rfl) rfl dL_law_1207 ⟨by dsimp only [room_1]; omega, by dsimp only [room_1]; omega⟩) hw (fun H locs hw => ?_)
        refine lv_aload_n hx hb dL_law_1210 rfl (lv_at hl 2 rfl) ?_
        refine lv_aload_n hx hb dL_law_1211 rfl (lv_at hl 0 rfl) ?_
        refine lv_iload hx hb dL_law_1212 (lv_at hl 4 rfl) ?_
        refine lv_iconst (v := 1) hx hb dL_law_1214 (by decide) ?_
        refine lv_iadd hx hb dL_law_1215 ?_
        obtain ⟨zt3, qzt3, hf⟩ := gb_el hf
        refine gx_sld hx hb hX hbl hbA hw.2 qzt3 dL_law_1216 ?_
        refine lv_aload_n hx hb dL_law_1217 rfl (lv_at hl 0 rfl) ?_
        refine lv_iload hx hb dL_law_1218 (lv_at hl 4 rfl) ?_
        refine W.eq (g2 := F0 m 1220 ls [.int zv4, .ref zb, .int zt3, .ref (gB E + zv2), .int zt2]) rfl ?_
        refine lv_iconst (v := 2) hx hb dL_law_1220 (by decide) ?_
        refine lv_iadd hx hb dL_law_1221 ?_
        obtain ⟨zt4, qzt4, hf⟩ := gb_el hf
        refine gx_sld hx hb hX hbl hbA hw.2 qzt4 dL_law_1222 ?_
        refine lv_if_eq (tgt := 1230) hx hb dL_law_1223 (by decide) (fun qc5 => ?_) (fun qc5 => ?_)
        · have hf := gif_t hf qc5
          refine lv_iconst (v := 0) hx hb dL_law_1230 (by decide) ?_
          refine W.widen (k := 111 + 52 * (513 - (zn23 + 1)) + 52) (n := 24833 + 1512 * (513 - (zn23 + 1)) + 1512) (by omega) (by omega) ?_
          exact J_1231 zv0 zv1 zv2 zv3 zv4 0 zt3 zv2 zt2 _ _ _ ls hf hw (lv_sub hl [0, 1, 2, 3, 4] rfl)
        · have hf := gif_f hf qc5
          refine lv_iconst (v := 1) hx hb dL_law_1226 (by decide) ?_
          refine lv_goto (tgt := 1231) hx hb dL_law_1227 (by decide) ?_
          refine W.widen (k := 111 + 52 * (513 - (zn23 + 1)) + 52) (n := 24833 + 1512 * (513 - (zn23 + 1)) + 1512) (by omega) (by omega) ?_
          exact J_1231 zv0 zv1 zv2 zv3 zv4 1 zt3 zv2 zt2 _ _ _ ls hf hw (lv_sub hl [0, 1, 2, 3, 4] rfl)
      have J_512 : ∀ (zv0 : Nat) (zv1 : Nat) (zv2 : Nat) (zv3 : Nat) (zv4 : Int32) (zh : PH) (H : Heap) (locs : List Loc) (ls : Array Slot), f_L_law_512 N zL zxs (gi (fun zk zs => f_L_law_23 N zL zxs zk zs.1 zs.2.1 zs.2.2.1 zs.2.2.2.1 zs.2.2.2.2.1 zs.2.2.2.2.2) zn23) zv0 zv1 zv2 zv3 zv4 zh = some (1, h9) → gw E s zh H locs → lv_has ls 7 [(0, .ref zb), (1, .ref (gB E + zv1)), (2, .ref (gB E + zv2)), (3, .ref (gB E + zv3)), (4, .int zv4)] → W p l e room_1 s m #[Value.ref zb] below meth c H locs (111 + 52 * (513 - (zn23 + 1)) + 1) (24833 + 1512 * (513 - (zn23 + 1)) + 6) (lw_Z below #[Value.ref zb] s) (F0 m 512 ls []) := by
        intro zv0 zv1 zv2 zv3 zv4 zh H locs ls hf hw hl
        unfold f_L_law_512 at hf
        refine lv_goto (tgt := 1264) hx hb dL_law_512 (by decide) ?_
        refine W.widen (k := 111 + 52 * (513 - (zn23 + 1)) + 52) (n := 24833 + 1512 * (513 - (zn23 + 1)) + 1512) (by omega) (by omega) ?_
        exact J_1264 zv0 zv1 zv2 zv3 zv4 _ _ _ ls hf hw (lv_sub hl [0, 1, 2, 3, 4] rfl)
      intro zv0 zv1 zv2 zv3 zv4 zh H locs ls hzn hf hw hl
      have hf := gi_s hf
      dsimp only at hf
      unfold f_L_law_23 at hf
      refine lv_iload hx hb dL_law_23 (lv_at hl 4 rfl) ?_
      refine lv_aload_n hx hb dL_law_25 rfl (lv_at hl 0 rfl) ?_
      refine va_slen hx hb hX hbl hbA hw.2 dL_law_26 ?_
      refine lv_bipush (v := 7) hx hb dL_law_27 (by decide) ?_
      refine lv_isub hx hb dL_law_29 ?_
      refine lv_icmp_gt (tgt := 1270) hx hb dL_law_30 (by decide) (fun qc1 => ?_) (fun qc1 => ?_)
      · have hf := gif_t hf qc1
        refine lv_iconst (v := 1) hx hb dL_law_1270 (by decide) ?_
        refine va_forget (fun q hq => by rw [← hB]; exact hw.2.2.2 q hq) ?_
        refine W.widen (k := 601024) (n := 7293034) (by omega) (by omega) ?_
        exact lw_ret hx hb hr hlk dL_law_1271
      · have hf := gif_f hf qc1
        refine lv_aload_n hx hb dL_law_33 rfl (lv_at hl 0 rfl) ?_
        refine lv_iload hx hb dL_law_34 (lv_at hl 4 rfl) ?_
        obtain ⟨zt2, qzt2, hf⟩ := gb_el hf
        refine gx_sld hx hb hX hbl hbA hw.2 qzt2 dL_law_36 ?_
        refine W.eq (g2 := F0 m 37 ls [.int zt2]) rfl ?_
        refine lv_bipush (v := 31) hx hb dL_law_37 (by decide) ?_
        refine lv_iand hx hb dL_law_39 ?_
        by_cases qc3 : ((zt2 &&& 31) : Int32) = 0
        · have hf := gif_t hf qc3
          refine lv_tableIn (off := 136) (tgt := 176) hx hb dL_law_40 (by rw [qc3]; decide) (by rw [qc3]; decide) (by rw [qc3]; rfl) (by decide) ?_
          refine lv_aload_n hx hb dL_law_176 rfl (lv_at hl 1 rfl) ?_
          refine lv_aload_n hx hb dL_law_177 rfl (lv_at hl 0 rfl) ?_
          refine lv_iload hx hb dL_law_178 (lv_at hl 4 rfl) ?_
          refine lv_iconst (v := 1) hx hb dL_law_180 (by decide) ?_
          refine lv_iadd hx hb dL_law_181 ?_
          obtain ⟨zt4, qzt4, hf⟩ := gb_el hf
          refine gx_sld hx hb hX hbl hbA hw.2 qzt4 dL_law_182 ?_
          refine lv_i2l hx hb dL_law_183 rfl ?_
          refine W.eq (g2 := F0 m 184 ls [.long (Int32.toInt64 zt4), .ref (gB E + zv1)]) rfl ?_
          refine lv_bipush (v := 32) hx hb dL_law_184 (by decide) ?_
          refine lv_lshl hx hb dL_law_186 rfl ?_
          refine lv_aload_n hx hb dL_law_187 rfl (lv_at hl 0 rfl) ?_
          refine lv_iload hx hb dL_law_188 (lv_at hl 4 rfl) ?_
          refine lv_iconst (v := 2) hx hb dL_law_190 (by decide) ?_
          refine lv_iadd hx hb dL_law_191 ?_
          obtain ⟨zt5, qzt5, hf⟩ := gb_el hf
          refine gx_sld hx hb hX hbl hbA hw.2 qzt5 dL_law_192 ?_
          refine lv_i2l hx hb dL_law_193 rfl ?_
          refine lv_ldc2 (v := 4294967295) hx hb X.1.2.2.2.1 (X.1.2.2.2.2 _ mK_L_19) dL_law_194 ?_
          refine lv_land hx hb dL_law_197 ?_
          refine W.eq (g2 := F0 m 198 ls [.long ((Int32.toInt64 zt5) &&& 4294967295), .long ((Int32.toInt64 zt4) <<< (Int32.toInt64 32 &&& 63)), .ref (gB E + zv1)]) rfl ?_
          refine lv_lor hx hb dL_law_198 ?_
          refine lv_aload_n hx hb dL_law_199 rfl (lv_at hl 0 rfl) ?_
          refine lv_iload hx hb dL_law_200 (lv_at hl 4 rfl) ?_
          refine lv_iconst (v := 3) hx hb dL_law_202 (by decide) ?_
          refine lv_iadd hx hb dL_law_203 ?_
          obtain ⟨zt6, qzt6, hf⟩ := gb_el hf
          refine gx_sld hx hb hX hbl hbA hw.2 qzt6 dL_law_204 ?_
          refine lv_i2l hx hb dL_law_205 rfl ?_
          refine lv_bipush (v := 32) hx hb dL_law_206 (by decide) ?_
          refine lv_lshl hx hb dL_law_208 rfl ?_
          refine lv_aload_n hx hb dL_law_209 rfl (lv_at hl 0 rfl) ?_
          refine W.eq (g2 := F0 m 210 ls [.ref zb, .long ((Int32.toInt64 zt6) <<< (Int32.toInt64 32 &&& 63)), .long (((Int32.toInt64 zt4) <<< (Int32.toInt64 32 &&& 63)) ||| ((Int32.toInt64 zt5) &&& 4294967295)), .ref (gB E + zv1)]) rfl ?_
          refine lv_iload hx hb dL_law_210 (lv_at hl 4 rfl) ?_
          refine lv_iconst (v := 4) hx hb dL_law_212 (by decide) ?_
          refine lv_iadd hx hb dL_law_213 ?_
          obtain ⟨zt7, qzt7, hf⟩ := gb_el hf
          refine gx_sld hx hb hX hbl hbA hw.2 qzt7 dL_law_214 ?_
          refine lv_i2l hx hb dL_law_215 rfl ?_
          refine lv_ldc2 (v := 4294967295) hx hb X.1.2.2.2.1 (X.1.2.2.2.2 _ mK_L_19) dL_law_216 ?_
          refine lv_land hx hb dL_law_219 ?_
          refine lv_lor hx hb dL_law_220 ?_
          refine lv_aload_n hx hb dL_law_221 rfl (lv_at hl 0 rfl) ?_
          refine lv_iload hx hb dL_law_222 (lv_at hl 4 rfl) ?_
          refine W.eq (g2 := F0 m 224 ls [.int zv4, .ref zb, .long (((Int32.toInt64 zt6) <<< (Int32.toInt64 32 &&& 63)) ||| ((Int32.toInt64 zt7) &&& 4294967295)), .long (((Int32.toInt64 zt4) <<< (Int32.toInt64 32 &&& 63)) ||| ((Int32.toInt64 zt5) &&& 4294967295)), .ref (gB E + zv1)]) rfl ?_
          refine lv_iconst (v := 5) hx hb dL_law_224 (by decide) ?_
          refine lv_iadd hx hb dL_law_225 ?_
          obtain ⟨zt8, qzt8, hf⟩ := gb_el hf
          refine gx_sld hx hb hX hbl hbA hw.2 qzt8 dL_law_226 ?_
          refine lv_i2l hx hb dL_law_227 rfl ?_
          refine lv_bipush (v := 32) hx hb dL_law_228 (by decide) ?_
          refine lv_lshl hx hb dL_law_230 rfl ?_
          refine lv_aload_n hx hb dL_law_231 rfl (lv_at hl 0 rfl) ?_
          refine lv_iload hx hb dL_law_232 (lv_at hl 4 rfl) ?_
          refine lv_bipush (v := 6) hx hb dL_law_234 (by decide) ?_
          refine lv_iadd hx hb dL_law_236 ?_
          refine W.eq (g2 := F0 m 237 ls [.int (zv4 + 6), .ref zb, .long ((Int32.toInt64 zt8) <<< (Int32.toInt64 32 &&& 63)), .long (((Int32.toInt64 zt6) <<< (Int32.toInt64 32 &&& 63)) ||| ((Int32.toInt64 zt7) &&& 4294967295)), .long (((Int32.toInt64 zt4) <<< (Int32.toInt64 32 &&& 63)) ||| ((Int32.toInt64 zt5) &&& 4294967295)), .ref (gB E + zv1)]) rfl ?_
          obtain ⟨zt9, qzt9, hf⟩ := gb_el hf
          refine gx_sld hx hb hX hbl hbA hw.2 qzt9 dL_law_237 ?_
          refine lv_i2l hx hb dL_law_238 rfl ?_
          refine lv_ldc2 (v := 4294967295) hx hb X.1.2.2.2.1 (X.1.2.2.2.2 _ mK_L_19) dL_law_239 ?_
          refine lv_land hx hb dL_law_242 ?_
          refine lv_lor hx hb dL_law_243 ?_
          obtain ⟨qizh10, hf⟩ := gg_el hf
          obtain ⟨zt11, zh10, qzh10, hf⟩ := gc_el hf
          refine gx_ki (gx_runV (As := [.long (((Int32.toInt64 zt4) <<< (Int32.toInt64 32 &&& 63)) ||| ((Int32.toInt64 zt5) &&& 4294967295)), .long (((Int32.toInt64 zt6) <<< (Int32.toInt64 32 &&& 63)) ||| ((Int32.toInt64 zt7) &&& 4294967295)), .long (((Int32.toInt64 zt8) <<< (Int32.toInt64 32 &&& 63)) ||| ((Int32.toInt64 zt9) &&& 4294967295))]) (rest := []) X hw (c_X11_feed l E N zv1 (((Int32.toInt64 zt4) <<< (Int32.toInt64 32 &&& 63)) ||| ((Int32.toInt64 zt5) &&& 4294967295)) (((Int32.toInt64 zt6) <<< (Int32.toInt64 32 &&& 63)) ||| ((Int32.toInt64 zt7) &&& 4294967295)) (((Int32.toInt64 zt8) <<< (Int32.toInt64 32 &&& 63)) ||| ((Int32.toInt64 zt9) &&& 4294967295)) zh qzh10) kX11_feed mm_L_21 qizh10 clX11 ⟨by dsimp only [room_1, rm_X11_feed]; omega, by dsimp only [room_1, rm_X11_feed]; omega⟩ rfl rfl rfl hl.1 (Nat.le_of_ble_eq_true rfl) rfl dL_law_244 ⟨by dsimp only [room_1]; omega, by dsimp only [room_1]; omega⟩) hw (fun H locs hw => ?_)
          refine lv_aload_n hx hb dL_law_247 rfl (lv_at hl 2 rfl) ?_
          refine lv_aload_n hx hb dL_law_248 rfl (lv_at hl 0 rfl) ?_
          refine lv_iload hx hb dL_law_249 (lv_at hl 4 rfl) ?_
          refine lv_iconst (v := 1) hx hb dL_law_251 (by decide) ?_
          refine W.eq (g2 := F0 m 252 ls [.int 1, .int zv4, .ref zb, .ref (gB E + zv2), .int zt11]) rfl ?_
          refine lv_iadd hx hb dL_law_252 ?_
          obtain ⟨zt12, qzt12, hf⟩ := gb_el hf
          refine gx_sld hx hb hX hbl hbA hw.2 qzt12 dL_law_253 ?_
          refine lv_i2l hx hb dL_law_254 rfl ?_
          refine lv_bipush (v := 32) hx hb dL_law_255 (by decide) ?_
          refine lv_lshl hx hb dL_law_257 rfl ?_
          refine lv_aload_n hx hb dL_law_258 rfl (lv_at hl 0 rfl) ?_
          refine lv_iload hx hb dL_law_259 (lv_at hl 4 rfl) ?_
          refine lv_iconst (v := 2) hx hb dL_law_261 (by decide) ?_
          refine lv_iadd hx hb dL_law_262 ?_
          obtain ⟨zt13, qzt13, hf⟩ := gb_el hf
          refine gx_sld hx hb hX hbl hbA hw.2 qzt13 dL_law_263 ?_
          refine W.eq (g2 := F0 m 264 ls [.int zt13, .long ((Int32.toInt64 zt12) <<< (Int32.toInt64 32 &&& 63)), .ref (gB E + zv2), .int zt11]) rfl ?_
          refine lv_i2l hx hb dL_law_264 rfl ?_
          refine lv_ldc2 (v := 4294967295) hx hb X.1.2.2.2.1 (X.1.2.2.2.2 _ mK_L_19) dL_law_265 ?_
          refine lv_land hx hb dL_law_268 ?_
          refine lv_lor hx hb dL_law_269 ?_
          refine lv_aload_n hx hb dL_law_270 rfl (lv_at hl 0 rfl) ?_
          refine lv_iload hx hb dL_law_271 (lv_at hl 4 rfl) ?_
          refine lv_iconst (v := 3) hx hb dL_law_273 (by decide) ?_
          refine lv_iadd hx hb dL_law_274 ?_
          obtain ⟨zt14, qzt14, hf⟩ := gb_el hf
          refine gx_sld hx hb hX hbl hbA hw.2 qzt14 dL_law_275 ?_
          refine lv_i2l hx hb dL_law_276 rfl ?_
          refine W.eq (g2 := F0 m 277 ls [.long (Int32.toInt64 zt14), .long (((Int32.toInt64 zt12) <<< (Int32.toInt64 32 &&& 63)) ||| ((Int32.toInt64 zt13) &&& 4294967295)), .ref (gB E + zv2), .int zt11]) rfl ?_
          refine lv_bipush (v := 32) hx hb dL_law_277 (by decide) ?_
          refine lv_lshl hx hb dL_law_279 rfl ?_
          refine lv_aload_n hx hb dL_law_280 rfl (lv_at hl 0 rfl) ?_
          refine lv_iload hx hb dL_law_281 (lv_at hl 4 rfl) ?_
          refine lv_iconst (v := 4) hx hb dL_law_283 (by decide) ?_
          refine lv_iadd hx hb dL_law_284 ?_
          obtain ⟨zt15, qzt15, hf⟩ := gb_el hf
          refine gx_sld hx hb hX hbl hbA hw.2 qzt15 dL_law_285 ?_
          refine lv_i2l hx hb dL_law_286 rfl ?_
          refine lv_ldc2 (v := 4294967295) hx hb X.1.2.2.2.1 (X.1.2.2.2.2 _ mK_L_19) dL_law_287 ?_
          refine lv_land hx hb dL_law_290 ?_
          refine W.eq (g2 := F0 m 291 ls [.long ((Int32.toInt64 zt15) &&& 4294967295), .long ((Int32.toInt64 zt14) <<< (Int32.toInt64 32 &&& 63)), .long (((Int32.toInt64 zt12) <<< (Int32.toInt64 32 &&& 63)) ||| ((Int32.toInt64 zt13) &&& 4294967295)), .ref (gB E + zv2), .int zt11]) rfl ?_
          refine lv_lor hx hb dL_law_291 ?_
          refine lv_aload_n hx hb dL_law_292 rfl (lv_at hl 0 rfl) ?_
          refine lv_iload hx hb dL_law_293 (lv_at hl 4 rfl) ?_
          refine lv_iconst (v := 5) hx hb dL_law_295 (by decide) ?_
          refine lv_iadd hx hb dL_law_296 ?_
          obtain ⟨zt16, qzt16, hf⟩ := gb_el hf
          refine gx_sld hx hb hX hbl hbA hw.2 qzt16 dL_law_297 ?_
          refine lv_i2l hx hb dL_law_298 rfl ?_
          refine lv_bipush (v := 32) hx hb dL_law_299 (by decide) ?_
          refine lv_lshl hx hb dL_law_301 rfl ?_
          refine lv_aload_n hx hb dL_law_302 rfl (lv_at hl 0 rfl) ?_
          refine W.eq (g2 := F0 m 303 ls [.ref zb, .long ((Int32.toInt64 zt16) <<< (Int32.toInt64 32 &&& 63)), .long (((Int32.toInt64 zt14) <<< (Int32.toInt64 32 &&& 63)) ||| ((Int32.toInt64 zt15) &&& 4294967295)), .long (((Int32.toInt64 zt12) <<< (Int32.toInt64 32 &&& 63)) ||| ((Int32.toInt64 zt13) &&& 4294967295)), .ref (gB E + zv2), .int zt11]) rfl ?_
          refine lv_iload hx hb dL_law_303 (lv_at hl 4 rfl) ?_
          refine lv_bipush (v := 6) hx hb dL_law_305 (by decide) ?_
          refine lv_iadd hx hb dL_law_307 ?_
          obtain ⟨zt17, qzt17, hf⟩ := gb_el hf
          refine gx_sld hx hb hX hbl hbA hw.2 qzt17 dL_law_308 ?_
          refine lv_i2l hx hb dL_law_309 rfl ?_
          refine lv_ldc2 (v := 4294967295) hx hb X.1.2.2.2.1 (X.1.2.2.2.2 _ mK_L_19) dL_law_310 ?_
          refine lv_land hx hb dL_law_313 ?_
          refine lv_lor hx hb dL_law_314 ?_
          obtain ⟨qizh18, hf⟩ := gg_el hf
          obtain ⟨zt19, zh18, qzh18, hf⟩ := gc_el hf
          refine gx_ki (gx_runV (As := [.long (((Int32.toInt64 zt12) <<< (Int32.toInt64 32 &&& 63)) ||| ((Int32.toInt64 zt13) &&& 4294967295)), .long (((Int32.toInt64 zt14) <<< (Int32.toInt64 32 &&& 63)) ||| ((Int32.toInt64 zt15) &&& 4294967295)), .long (((Int32.toInt64 zt16) <<< (Int32.toInt64 32 &&& 63)) ||| ((Int32.toInt64 zt17) &&& 4294967295))]) (rest := [.int zt11]) X hw (c_X12_feed l E N zv2 (((Int32.toInt64 zt12) <<< (Int32.toInt64 32 &&& 63)) ||| ((Int32.toInt64 zt13) &&& 4294967295)) (((Int32.toInt64 zt14) <<< (Int32.toInt64 32 &&& 63)) ||| ((Int32.toInt64 zt15) &&& 4294967295)) (((Int32.toInt64 zt16) <<< (Int32.toInt64 32 &&& 63)) ||| ((Int32.toInt64 zt17) &&& 4294967295)) zh10 qzh18) kX12_feed mm_L_25 qizh18 clX12 ⟨by dsimp only [room_1, rm_X12_feed]; omega, by dsimp only [room_1, rm_X12_feed]; omega⟩ rfl rfl rfl hl.1 (Nat.le_of_ble_eq_true rfl) rfl dL_law_315 ⟨by dsimp only [room_1]; omega, by dsimp only [room_1]; omega⟩) hw (fun H locs hw => ?_)
          refine lv_icmp_eq (tgt := 1264) hx hb dL_law_318 (by decide) (fun qc20 => ?_) (fun qc20 => ?_)
          · have hf := gif_t hf qc20
            refine W.widen (k := 111 + 52 * (513 - (zn23 + 1)) + 52) (n := 24833 + 1512 * (513 - (zn23 + 1)) + 1512) (by omega) (by omega) ?_
            exact J_1264 zv0 zv1 zv2 zv3 zv4 _ _ _ ls hf hw (lv_sub hl [0, 1, 2, 3, 4] rfl)
          · have hf := gif_f hf qc20
            refine W.eq (g2 := F0 m 321 ls []) rfl ?_
            refine lv_iconst (v := 0) hx hb dL_law_321 (by decide) ?_
            exact absurd (Prod.mk.inj (Option.some.inj hf)).1 (by decide)
        have hf := gif_f hf qc3
        by_cases qc21 : ((zt2 &&& 31) : Int32) = 1
        · have hf := gif_t hf qc21
          refine lv_tableIn (off := 283) (tgt := 323) hx hb dL_law_40 (by rw [qc21]; decide) (by rw [qc21]; decide) (by rw [qc21]; rfl) (by decide) ?_
          refine lv_aload_n hx hb dL_law_323 rfl (lv_at hl 1 rfl) ?_
          obtain ⟨qizh22, hf⟩ := gg_el hf
          obtain ⟨zt23, zh22, qzh22, hf⟩ := gc_el hf
          refine gx_ki (gx_runV (As := []) (rest := []) X hw (c_X11_inn l E N zv1 zh qzh22) kX11_inn mm_L_26 qizh22 clX11 ⟨by dsimp only [room_1, rm_X11_inn]; omega, by dsimp only [room_1, rm_X11_inn]; omega⟩ rfl rfl rfl hl.1 (Nat.le_of_ble_eq_true rfl) rfl dL_law_324 ⟨by dsimp only [room_1]; omega, by dsimp only [room_1]; omega⟩) hw (fun H locs hw => ?_)
          refine lv_aload_n hx hb dL_law_327 rfl (lv_at hl 2 rfl) ?_
          obtain ⟨qizh24, hf⟩ := gg_el hf
          obtain ⟨zt25, zh24, qzh24, hf⟩ := gc_el hf
          refine gx_ki (gx_runV (As := []) (rest := [.int zt23]) X hw (c_X12_inn l E N zv2 zh22 qzh24) kX12_inn mm_L_30 qizh24 clX12 ⟨by dsimp only [room_1, rm_X12_inn]; omega, by dsimp only [room_1, rm_X12_inn]; omega⟩ rfl rfl rfl hl.1 (Nat.le_of_ble_eq_true rfl) rfl dL_law_328 ⟨by dsimp only [room_1]; omega, by dsimp only [room_1]; omega⟩) hw (fun H locs hw => ?_)
          refine lv_icmp_eq (tgt := 1264) hx hb dL_law_331 (by decide) (fun qc26 => ?_) (fun qc26 => ?_)
          · have hf := gif_t hf qc26
            refine W.widen (k := 111 + 52 * (513 - (zn23 + 1)) + 52) (n := 24833 + 1512 * (513 - (zn23 + 1)) + 1512) (by omega) (by omega) ?_
            exact J_1264 zv0 zv1 zv2 zv3 zv4 _ _ _ ls hf hw (lv_sub hl [0, 1, 2, 3, 4] rfl)
          · have hf := gif_f hf qc26
            refine lv_iconst (v := 0) hx hb dL_law_334 (by decide) ?_
            exact absurd (Prod.mk.inj (Option.some.inj hf)).1 (by decide)
        have hf := gif_f hf qc21
        by_cases qc27 : ((zt2 &&& 31) : Int32) = 2
        · have hf := gif_t hf qc27
          refine lv_tableIn (off := 296) (tgt := 336) hx hb dL_law_40 (by rw [qc27]; decide) (by rw [qc27]; decide) (by rw [qc27]; rfl) (by decide) ?_
          refine lv_aload_n hx hb dL_law_336 rfl (lv_at hl 1 rfl) ?_
          refine lv_aload_n hx hb dL_law_337 rfl (lv_at hl 0 rfl) ?_
          refine lv_iload hx hb dL_law_338 (lv_at hl 4 rfl) ?_
          refine lv_iconst (v := 1) hx hb dL_law_340 (by decide) ?_
          refine lv_iadd hx hb dL_law_341 ?_
          obtain ⟨zt28, qzt28, hf⟩ := gb_el hf
          refine gx_sld hx hb hX hbl hbA hw.2 qzt28 dL_law_342 ?_
          refine lv_aload_n hx hb dL_law_343 rfl (lv_at hl 0 rfl) ?_
          refine W.eq (g2 := F0 m 344 ls [.ref zb, .int zt28, .ref (gB E + zv1)]) rfl ?_
          refine lv_iload hx hb dL_law_344 (lv_at hl 4 rfl) ?_
          refine lv_iconst (v := 2) hx hb dL_law_346 (by decide) ?_
          refine lv_iadd hx hb dL_law_347 ?_
          obtain ⟨zt29, qzt29, hf⟩ := gb_el hf
          refine gx_sld hx hb hX hbl hbA hw.2 qzt29 dL_law_348 ?_
          obtain ⟨qizh30, hf⟩ := gg_el hf
          obtain ⟨zt31, zh30, qzh30, hf⟩ := gc_el hf
          refine gx_ki (gx_runV (As := [.int zt28, .int zt29]) (rest := []) X hw (c_X11_room l E N zv1 zt28 zt29 zh qzh30) kX11_room mm_L_31 qizh30 clX11 ⟨by dsimp only [room_1, rm_X11_room]; omega, by dsimp only [room_1, rm_X11_room]; omega⟩ rfl rfl rfl hl.1 (Nat.le_of_ble_eq_true rfl) rfl dL_law_349 ⟨by dsimp only [room_1]; omega, by dsimp only [room_1]; omega⟩) hw (fun H locs hw => ?_)
          refine lv_aload_n hx hb dL_law_352 rfl (lv_at hl 2 rfl) ?_
          refine lv_aload_n hx hb dL_law_353 rfl (lv_at hl 0 rfl) ?_
          refine lv_iload hx hb dL_law_354 (lv_at hl 4 rfl) ?_
          refine lv_iconst (v := 1) hx hb dL_law_356 (by decide) ?_
          refine lv_iadd hx hb dL_law_357 ?_
          refine W.eq (g2 := F0 m 358 ls [.int (zv4 + 1), .ref zb, .ref (gB E + zv2), .int zt31]) rfl ?_
          obtain ⟨zt32, qzt32, hf⟩ := gb_el hf
          refine gx_sld hx hb hX hbl hbA hw.2 qzt32 dL_law_358 ?_
          refine lv_aload_n hx hb dL_law_359 rfl (lv_at hl 0 rfl) ?_
          refine lv_iload hx hb dL_law_360 (lv_at hl 4 rfl) ?_
          refine lv_iconst (v := 2) hx hb dL_law_362 (by decide) ?_
          refine lv_iadd hx hb dL_law_363 ?_
          obtain ⟨zt33, qzt33, hf⟩ := gb_el hf
          refine gx_sld hx hb hX hbl hbA hw.2 qzt33 dL_law_364 ?_
          obtain ⟨qizh34, hf⟩ := gg_el hf
          obtain ⟨zt35, zh34, qzh34, hf⟩ := gc_el hf
          refine gx_ki (gx_runV (As := [.int zt32, .int zt33]) (rest := [.int zt31]) X hw (c_X12_room l E N zv2 zt32 zt33 zh30 qzh34) kX12_room mm_L_35 qizh34 clX12 ⟨by dsimp only [room_1, rm_X12_room]; omega, by dsimp only [room_1, rm_X12_room]; omega⟩ rfl rfl rfl hl.1 (Nat.le_of_ble_eq_true rfl) rfl dL_law_365 ⟨by dsimp only [room_1]; omega, by dsimp only [room_1]; omega⟩) hw (fun H locs hw => ?_)
          refine lv_icmp_eq (tgt := 1264) hx hb dL_law_368 (by decide) (fun qc36 => ?_) (fun qc36 => ?_)
          · have hf := gif_t hf qc36
            refine W.widen (k := 111 + 52 * (513 - (zn23 + 1)) + 52) (n := 24833 + 1512 * (513 - (zn23 + 1)) + 1512) (by omega) (by omega) ?_
            exact J_1264 zv0 zv1 zv2 zv3 zv4 _ _ _ ls hf hw (lv_sub hl [0, 1, 2, 3, 4] rfl)
          · have hf := gif_f hf qc36
            refine lv_iconst (v := 0) hx hb dL_law_371 (by decide) ?_
            exact absurd (Prod.mk.inj (Option.some.inj hf)).1 (by decide)
        have hf := gif_f hf qc27
        by_cases qc37 : ((zt2 &&& 31) : Int32) = 3
        · have hf := gif_t hf qc37
          refine lv_tableIn (off := 333) (tgt := 373) hx hb dL_law_40 (by rw [qc37]; decide) (by rw [qc37]; decide) (by rw [qc37]; rfl) (by decide) ?_
          refine lv_aload_n hx hb dL_law_373 rfl (lv_at hl 1 rfl) ?_
          refine lv_aload_n hx hb dL_law_374 rfl (lv_at hl 0 rfl) ?_
          refine lv_iload hx hb dL_law_375 (lv_at hl 4 rfl) ?_
          refine lv_iconst (v := 1) hx hb dL_law_377 (by decide) ?_
          refine lv_iadd hx hb dL_law_378 ?_
          obtain ⟨zt38, qzt38, hf⟩ := gb_el hf
          refine gx_sld hx hb hX hbl hbA hw.2 qzt38 dL_law_379 ?_
          refine lv_aload_n hx hb dL_law_380 rfl (lv_at hl 0 rfl) ?_
          refine W.eq (g2 := F0 m 381 ls [.ref zb, .int zt38, .ref (gB E + zv1)]) rfl ?_
          refine lv_iload hx hb dL_law_381 (lv_at hl 4 rfl) ?_
          refine lv_iconst (v := 2) hx hb dL_law_383 (by decide) ?_
          refine lv_iadd hx hb dL_law_384 ?_
          obtain ⟨zt39, qzt39, hf⟩ := gb_el hf
          refine gx_sld hx hb hX hbl hbA hw.2 qzt39 dL_law_385 ?_
          obtain ⟨qizh40, hf⟩ := gg_el hf
          obtain ⟨zt41, zh40, qzh40, hf⟩ := gc_el hf
          refine gx_ki (gx_runV (As := [.int zt38, .int zt39]) (rest := []) X hw (c_X11_guest l E N zv1 zt38 zt39 zh qzh40) kX11_guest mm_L_36 qizh40 clX11 ⟨by dsimp only [room_1, rm_X11_guest]; omega, by dsimp only [room_1, rm_X11_guest]; omega⟩ rfl rfl rfl hl.1 (Nat.le_of_ble_eq_true rfl) rfl dL_law_386 ⟨by dsimp only [room_1]; omega, by dsimp only [room_1]; omega⟩) hw (fun H locs hw => ?_)
          refine lv_aload_n hx hb dL_law_389 rfl (lv_at hl 2 rfl) ?_
          refine lv_aload_n hx hb dL_law_390 rfl (lv_at hl 0 rfl) ?_
          refine lv_iload hx hb dL_law_391 (lv_at hl 4 rfl) ?_
          refine lv_iconst (v := 1) hx hb dL_law_393 (by decide) ?_
          refine lv_iadd hx hb dL_law_394 ?_
          refine W.eq (g2 := F0 m 395 ls [.int (zv4 + 1), .ref zb, .ref (gB E + zv2), .int zt41]) rfl ?_
          obtain ⟨zt42, qzt42, hf⟩ := gb_el hf
          refine gx_sld hx hb hX hbl hbA hw.2 qzt42 dL_law_395 ?_
          refine lv_aload_n hx hb dL_law_396 rfl (lv_at hl 0 rfl) ?_
          refine lv_iload hx hb dL_law_397 (lv_at hl 4 rfl) ?_
          refine lv_iconst (v := 2) hx hb dL_law_399 (by decide) ?_
          refine lv_iadd hx hb dL_law_400 ?_
          obtain ⟨zt43, qzt43, hf⟩ := gb_el hf
          refine gx_sld hx hb hX hbl hbA hw.2 qzt43 dL_law_401 ?_
          obtain ⟨qizh44, hf⟩ := gg_el hf
          obtain ⟨zt45, zh44, qzh44, hf⟩ := gc_el hf
          refine gx_ki (gx_runV (As := [.int zt42, .int zt43]) (rest := [.int zt41]) X hw (c_X12_guest l E N zv2 zt42 zt43 zh40 qzh44) kX12_guest mm_L_39 qizh44 clX12 ⟨by dsimp only [room_1, rm_X12_guest]; omega, by dsimp only [room_1, rm_X12_guest]; omega⟩ rfl rfl rfl hl.1 (Nat.le_of_ble_eq_true rfl) rfl dL_law_402 ⟨by dsimp only [room_1]; omega, by dsimp only [room_1]; omega⟩) hw (fun H locs hw => ?_)
          refine lv_icmp_eq (tgt := 1264) hx hb dL_law_405 (by decide) (fun qc46 => ?_) (fun qc46 => ?_)
          · have hf := gif_t hf qc46
            refine W.widen (k := 111 + 52 * (513 - (zn23 + 1)) + 52) (n := 24833 + 1512 * (513 - (zn23 + 1)) + 1512) (by omega) (by omega) ?_
            exact J_1264 zv0 zv1 zv2 zv3 zv4 _ _ _ ls hf hw (lv_sub hl [0, 1, 2, 3, 4] rfl)
          · have hf := gif_f hf qc46
            refine lv_iconst (v := 0) hx hb dL_law_408 (by decide) ?_
            exact absurd (Prod.mk.inj (Option.some.inj hf)).1 (by decide)
        have hf := gif_f hf qc37
        by_cases qc47 : ((zt2 &&& 31) : Int32) = 4
        · have hf := gif_t hf qc47
          refine lv_tableIn (off := 370) (tgt := 410) hx hb dL_law_40 (by rw [qc47]; decide) (by rw [qc47]; decide) (by rw [qc47]; rfl) (by decide) ?_
          refine lv_aload_n hx hb dL_law_410 rfl (lv_at hl 1 rfl) ?_
          refine lv_aload_n hx hb dL_law_411 rfl (lv_at hl 0 rfl) ?_
          refine lv_iload hx hb dL_law_412 (lv_at hl 4 rfl) ?_
          refine lv_iconst (v := 1) hx hb dL_law_414 (by decide) ?_
          refine lv_iadd hx hb dL_law_415 ?_
          obtain ⟨zt48, qzt48, hf⟩ := gb_el hf
          refine gx_sld hx hb hX hbl hbA hw.2 qzt48 dL_law_416 ?_
          obtain ⟨qizh49, hf⟩ := gg_el hf
          obtain ⟨zt50, zh49, qzh49, hf⟩ := gc_el hf
          refine gx_ki (gx_runV (As := [.int zt48]) (rest := []) X hw (c_X11_use l E N zv1 zt48 zh qzh49) kX11_use mm_L_40 qizh49 clX11 ⟨by dsimp only [room_1, rm_X11_use]; omega, by dsimp only [room_1, rm_X11_use]; omega⟩ rfl rfl rfl hl.1 (Nat.le_of_ble_eq_true rfl) rfl dL_law_417 ⟨by dsimp only [room_1]; omega, by dsimp only [room_1]; omega⟩) hw (fun H locs hw => ?_)
          refine W.eq (g2 := F0 m 420 ls [.int zt50]) rfl ?_
          refine lv_aload_n hx hb dL_law_420 rfl (lv_at hl 2 rfl) ?_
          refine lv_aload_n hx hb dL_law_421 rfl (lv_at hl 0 rfl) ?_
          refine lv_iload hx hb dL_law_422 (lv_at hl 4 rfl) ?_
          refine lv_iconst (v := 1) hx hb dL_law_424 (by decide) ?_
          refine lv_iadd hx hb dL_law_425 ?_
          obtain ⟨zt51, qzt51, hf⟩ := gb_el hf
          refine gx_sld hx hb hX hbl hbA hw.2 qzt51 dL_law_426 ?_
          obtain ⟨qizh52, hf⟩ := gg_el hf
          obtain ⟨zt53, zh52, qzh52, hf⟩ := gc_el hf
          refine gx_ki (gx_runV (As := [.int zt51]) (rest := [.int zt50]) X hw (c_X12_use l E N zv2 zt51 zh49 qzh52) kX12_use mm_L_44 qizh52 clX12 ⟨by dsimp only [room_1, rm_X12_use]; omega, by dsimp only [room_1, rm_X12_use]; omega⟩ rfl rfl rfl hl.1 (Nat.le_of_ble_eq_true rfl) rfl dL_law_427 ⟨by dsimp only [room_1]; omega, by dsimp only [room_1]; omega⟩) hw (fun H locs hw => ?_)
          refine lv_icmp_eq (tgt := 1264) hx hb dL_law_430 (by decide) (fun qc54 => ?_) (fun qc54 => ?_)
          · have hf := gif_t hf qc54
            refine W.widen (k := 111 + 52 * (513 - (zn23 + 1)) + 52) (n := 24833 + 1512 * (513 - (zn23 + 1)) + 1512) (by omega) (by omega) ?_
            exact J_1264 zv0 zv1 zv2 zv3 zv4 _ _ _ ls hf hw (lv_sub hl [0, 1, 2, 3, 4] rfl)
          · have hf := gif_f hf qc54
            refine lv_iconst (v := 0) hx hb dL_law_433 (by decide) ?_
            exact absurd (Prod.mk.inj (Option.some.inj hf)).1 (by decide)
        have hf := gif_f hf qc47
        by_cases qc55 : ((zt2 &&& 31) : Int32) = 5
        · have hf := gif_t hf qc55
          refine lv_tableIn (off := 395) (tgt := 435) hx hb dL_law_40 (by rw [qc55]; decide) (by rw [qc55]; decide) (by rw [qc55]; rfl) (by decide) ?_
          refine lv_aload_n hx hb dL_law_435 rfl (lv_at hl 1 rfl) ?_
          refine lv_aload_n hx hb dL_law_436 rfl (lv_at hl 0 rfl) ?_
          refine lv_iload hx hb dL_law_437 (lv_at hl 4 rfl) ?_
          refine lv_iconst (v := 1) hx hb dL_law_439 (by decide) ?_
          refine lv_iadd hx hb dL_law_440 ?_
          obtain ⟨zt56, qzt56, hf⟩ := gb_el hf
          refine gx_sld hx hb hX hbl hbA hw.2 qzt56 dL_law_441 ?_
          refine lv_aload_n hx hb dL_law_442 rfl (lv_at hl 0 rfl) ?_
          refine W.eq (g2 := F0 m 443 ls [.ref zb, .int zt56, .ref (gB E + zv1)]) rfl ?_
          refine lv_iload hx hb dL_law_443 (lv_at hl 4 rfl) ?_
          refine lv_iconst (v := 2) hx hb dL_law_445 (by decide) ?_
          refine lv_iadd hx hb dL_law_446 ?_
          obtain ⟨zt57, qzt57, hf⟩ := gb_el hf
          refine gx_sld hx hb hX hbl hbA hw.2 qzt57 dL_law_447 ?_
          refine lv_aload_n hx hb dL_law_448 rfl (lv_at hl 0 rfl) ?_
          refine lv_iload hx hb dL_law_449 (lv_at hl 4 rfl) ?_
          refine lv_iconst (v := 3) hx hb dL_law_451 (by decide) ?_
          refine lv_iadd hx hb dL_law_452 ?_
          obtain ⟨zt58, qzt58, hf⟩ := gb_el hf
          refine gx_sld hx hb hX hbl hbA hw.2 qzt58 dL_law_453 ?_
          refine lv_aload_n hx hb dL_law_454 rfl (lv_at hl 3 rfl) ?_
          refine W.eq (g2 := F0 m 455 ls [.ref (gB E + zv3), .int zt58, .int zt57, .int zt56, .ref (gB E + zv1)]) rfl ?_
          obtain ⟨zt59, zh60, qzh60, hf⟩ := gc_el hf
          refine gx_ki (vx_runSW (As := [.ref (gB E + zv1), .int zt56, .int zt57, .int zt58, .ref (gB E + zv3)]) (rest := []) (g := F0 m 455 ls [.ref (gB E + zv3), .int zt58, .int zt57, .int zt56, .ref (gB E + zv1)]) X.1 (c_L_gives l hst E N zv1 zt56 zt57 zt58 zv3 zh qzh60) (gx_cwL X) (gx_pre X hw _) rfl rfl hl.1 rfl (lv_room (Nat.le_of_ble_eq_true rfl)) dL_law_455 ⟨by dsimp only [room_1]; omega, by dsimp only [room_1]; omega⟩) hw (fun H locs hw => ?_)
          refine lv_istore (lv' := [(5, .int zt59), (0, .ref zb), (1, .ref (gB E + zv1)), (2, .ref (gB E + zv2)), (3, .ref (gB E + zv3)), (4, .int zv4)]) hx hb dL_law_458 hl (by decide) rfl (fun ls hl => ?_)
          refine lv_aload_n hx hb dL_law_460 rfl (lv_at hl 3 rfl) ?_
          refine lv_aload_n hx hb dL_law_461 rfl (lv_at hl 1 rfl) ?_
          refine lv_iload hx hb dL_law_462 (lv_at hl 5 rfl) ?_
          refine lv_iconst (v := 1) hx hb dL_law_464 (by decide) ?_
          refine lv_iadd hx hb dL_law_465 ?_
          obtain ⟨zt61, qzt61, hf⟩ := gb_el hf
          refine gx_sld hx hb hX hbl hbA hw.2 qzt61 dL_law_466 ?_
          refine lv_aload_n hx hb dL_law_467 rfl (lv_at hl 1 rfl) ?_
          refine lv_iload hx hb dL_law_468 (lv_at hl 5 rfl) ?_
          refine W.eq (g2 := F0 m 470 ls [.int zv4, .ref zb, .int zt61, .ref (gB E + zv2)]) rfl ?_
          refine lv_iconst (v := 2) hx hb dL_law_470 (by decide) ?_
          refine lv_iadd hx hb dL_law_471 ?_
          obtain ⟨zt62, qzt62, hf⟩ := gb_el hf
          refine gx_sld hx hb hX hbl hbA hw.2 qzt62 dL_law_472 ?_
          refine lv_aload_n hx hb dL_law_473 rfl (lv_at hl 1 rfl) ?_
          refine lv_iload hx hb dL_law_474 (lv_at hl 5 rfl) ?_
          refine lv_iconst (v := 3) hx hb dL_law_476 (by decide) ?_
          refine lv_iadd hx hb dL_law_477 ?_
          obtain ⟨zt63, qzt63, hf⟩ := gb_el hf
          refine gx_sld hx hb hX hbl hbA hw.2 qzt63 dL_law_478 ?_
          obtain ⟨qizh64, hf⟩ := gg_el hf
          obtain ⟨zt65, zh64, qzh64, hf⟩ := gc_el hf
          refine gx_ki (gx_runV (As := [.int zt61, .int zt62, .int zt63]) (rest := []) X hw (c_X12_gives l E N zv2 zt61 zt62 zt63 zh60 qzh64) kX12_gives mm_L_50 qizh64 clX12 ⟨by dsimp only [room_1, rm_X12_gives]; omega, by dsimp only [room_1, rm_X12_gives]; omega⟩ rfl rfl rfl hl.1 (Nat.le_of_ble_eq_true rfl) rfl dL_law_479 ⟨by dsimp only [room_1]; omega, by dsimp only [room_1]; omega⟩) hw (fun H locs hw => ?_)
          refine lv_istore (lv' := [(6, .int zt65), (5, .int zt59), (0, .ref zb), (1, .ref (gB E + zv1)), (2, .ref (gB E + zv2)), (3, .ref (gB E + zv3)), (4, .int zv4)]) hx hb dL_law_482 hl (by decide) rfl (fun ls hl => ?_)
          refine W.eq (g2 := F0 m 484 ls []) rfl ?_
          refine lv_aload_n hx hb dL_law_484 rfl (lv_at hl 4 rfl) ?_
          obtain ⟨qizh66, hf⟩ := gg_el hf
          obtain ⟨zt67, zh66, qzh66, hf⟩ := gc_el hf
          refine gx_ki (gx_runV (As := []) (rest := []) X hw (c_X12_thrown l E N zv2 zh64 qzh66) kX12_thrown mm_L_51 qizh66 clX12 ⟨by dsimp only [room_1, rm_X12_thrown]; omega, by dsimp only [room_1, rm_X12_thrown]; omega⟩ rfl rfl rfl hl.1 (Nat.le_of_ble_eq_true rfl) rfl dL_law_485 ⟨by dsimp only [room_1]; omega, by dsimp only [room_1]; omega⟩) hw (fun H locs hw => ?_)
          refine lv_iload hx hb dL_law_488 (lv_at hl 1 rfl) ?_
          refine lv_icmp_eq (tgt := 495) hx hb dL_law_490 (by decide) (fun qc68 => ?_) (fun qc68 => ?_)
          · have hf := gif_t hf qc68
            refine lv_iload hx hb dL_law_495 (lv_at hl 1 rfl) ?_
            refine lv_if_ne (tgt := 512) hx hb dL_law_497 (by decide) (fun qc69 => ?_) (fun qc69 => ?_)
            · have hf := gif_f hf qc69
              refine W.widen (k := 111 + 52 * (513 - (zn23 + 1)) + 1) (n := 24833 + 1512 * (513 - (zn23 + 1)) + 6) (by omega) (by omega) ?_
              exact J_512 zv0 zv1 zv2 zv3 zv4 _ _ _ ls hf hw (lv_sub hl [2, 3, 4, 5, 6] rfl)
            · have hf := gif_t hf qc69
              refine lv_aload_n hx hb dL_law_500 rfl (lv_at hl 5 rfl) ?_
              refine lv_iconst (v := 0) hx hb dL_law_501 (by decide) ?_
              obtain ⟨zt70, qzt70, hf⟩ := gb_el hf
              refine gx_lald X hw qzt70 dL_law_502 ?_
              refine lv_iload hx hb dL_law_503 (lv_at hl 0 rfl) ?_
              refine W.eq (g2 := F0 m 505 ls [.int zt65, .long zt70]) rfl ?_
              refine lv_i2l hx hb dL_law_505 rfl ?_
              refine W.lcmp hx hb dL_law_506 ?_
              refine lv_if_eq (tgt := 512) hx hb dL_law_507 (by decide) (fun qc71 => ?_) (fun qc71 => ?_)
              · have hf := gif_t hf qc71
                refine W.widen (k := 111 + 52 * (513 - (zn23 + 1)) + 1) (n := 24833 + 1512 * (513 - (zn23 + 1)) + 6) (by omega) (by omega) ?_
                exact J_512 zv0 zv1 zv2 zv3 zv4 _ _ _ ls hf hw (lv_sub hl [2, 3, 4, 5, 6] rfl)
              · have hf := gif_f hf qc71
                refine lv_iconst (v := 0) hx hb dL_law_510 (by decide) ?_
                exact absurd (Prod.mk.inj (Option.some.inj hf)).1 (by decide)
          · have hf := gif_f hf qc68
            refine lv_iconst (v := 0) hx hb dL_law_493 (by decide) ?_
            exact absurd (Prod.mk.inj (Option.some.inj hf)).1 (by decide)
        have hf := gif_f hf qc55
        by_cases qc72 : ((zt2 &&& 31) : Int32) = 6
        · have hf := gif_t hf qc72
          refine lv_tableIn (off := 475) (tgt := 515) hx hb dL_law_40 (by rw [qc72]; decide) (by rw [qc72]; decide) (by rw [qc72]; rfl) (by decide) ?_
          refine lv_aload_n hx hb dL_law_515 rfl (lv_at hl 1 rfl) ?_
          refine lv_aload_n hx hb dL_law_516 rfl (lv_at hl 0 rfl) ?_
          refine lv_iload hx hb dL_law_517 (lv_at hl 4 rfl) ?_
          refine lv_iconst (v := 1) hx hb dL_law_519 (by decide) ?_
          refine lv_iadd hx hb dL_law_520 ?_
          obtain ⟨zt73, qzt73, hf⟩ := gb_el hf
          refine gx_sld hx hb hX hbl hbA hw.2 qzt73 dL_law_521 ?_
          refine lv_aload_n hx hb dL_law_522 rfl (lv_at hl 0 rfl) ?_
          refine W.eq (g2 := F0 m 523 ls [.ref zb, .int zt73, .ref (gB E + zv1)]) rfl ?_
          refine lv_iload hx hb dL_law_523 (lv_at hl 4 rfl) ?_
          refine lv_iconst (v := 2) hx hb dL_law_525 (by decide) ?_
          refine lv_iadd hx hb dL_law_526 ?_
          obtain ⟨zt74, qzt74, hf⟩ := gb_el hf
          refine gx_sld hx hb hX hbl hbA hw.2 qzt74 dL_law_527 ?_
          obtain ⟨qizh75, hf⟩ := gg_el hf
          obtain ⟨zt76, zh75, qzh75, hf⟩ := gc_el hf
          refine gx_ki (gx_runV (As := [.int zt73, .int zt74]) (rest := []) X hw (c_X11_come l E N zv1 zt73 zt74 zh qzh75) kX11_come mm_L_54 qizh75 clX11 ⟨by dsimp only [room_1, rm_X11_come]; omega, by dsimp only [room_1, rm_X11_come]; omega⟩ rfl rfl rfl hl.1 (Nat.le_of_ble_eq_true rfl) rfl dL_law_528 ⟨by dsimp only [room_1]; omega, by dsimp only [room_1]; omega⟩) hw (fun H locs hw => ?_)
          refine lv_aload_n hx hb dL_law_531 rfl (lv_at hl 2 rfl) ?_
          refine lv_aload_n hx hb dL_law_532 rfl (lv_at hl 0 rfl) ?_
          refine lv_iload hx hb dL_law_533 (lv_at hl 4 rfl) ?_
          refine lv_iconst (v := 1) hx hb dL_law_535 (by decide) ?_
          refine lv_iadd hx hb dL_law_536 ?_
          refine W.eq (g2 := F0 m 537 ls [.int (zv4 + 1), .ref zb, .ref (gB E + zv2), .int zt76]) rfl ?_
          obtain ⟨zt77, qzt77, hf⟩ := gb_el hf
          refine gx_sld hx hb hX hbl hbA hw.2 qzt77 dL_law_537 ?_
          refine lv_aload_n hx hb dL_law_538 rfl (lv_at hl 0 rfl) ?_
          refine lv_iload hx hb dL_law_539 (lv_at hl 4 rfl) ?_
          refine lv_iconst (v := 2) hx hb dL_law_541 (by decide) ?_
          refine lv_iadd hx hb dL_law_542 ?_
          obtain ⟨zt78, qzt78, hf⟩ := gb_el hf
          refine gx_sld hx hb hX hbl hbA hw.2 qzt78 dL_law_543 ?_
          obtain ⟨qizh79, hf⟩ := gg_el hf
          obtain ⟨zt80, zh79, qzh79, hf⟩ := gc_el hf
          refine gx_ki (gx_runV (As := [.int zt77, .int zt78]) (rest := [.int zt76]) X hw (c_X12_come l E N zv2 zt77 zt78 zh75 qzh79) kX12_come mm_L_57 qizh79 clX12 ⟨by dsimp only [room_1, rm_X12_come]; omega, by dsimp only [room_1, rm_X12_come]; omega⟩ rfl rfl rfl hl.1 (Nat.le_of_ble_eq_true rfl) rfl dL_law_544 ⟨by dsimp only [room_1]; omega, by dsimp only [room_1]; omega⟩) hw (fun H locs hw => ?_)
          refine lv_icmp_eq (tgt := 1264) hx hb dL_law_547 (by decide) (fun qc81 => ?_) (fun qc81 => ?_)
          · have hf := gif_t hf qc81
            refine W.widen (k := 111 + 52 * (513 - (zn23 + 1)) + 52) (n := 24833 + 1512 * (513 - (zn23 + 1)) + 1512) (by omega) (by omega) ?_
            exact J_1264 zv0 zv1 zv2 zv3 zv4 _ _ _ ls hf hw (lv_sub hl [0, 1, 2, 3, 4] rfl)
          · have hf := gif_f hf qc81
            refine lv_iconst (v := 0) hx hb dL_law_550 (by decide) ?_
            exact absurd (Prod.mk.inj (Option.some.inj hf)).1 (by decide)
        have hf := gif_f hf qc72
        by_cases qc82 : ((zt2 &&& 31) : Int32) = 7
        · have hf := gif_t hf qc82
          refine lv_tableIn (off := 512) (tgt := 552) hx hb dL_law_40 (by rw [qc82]; decide) (by rw [qc82]; decide) (by rw [qc82]; rfl) (by decide) ?_
          refine lv_aload_n hx hb dL_law_552 rfl (lv_at hl 1 rfl) ?_
          refine lv_aload_n hx hb dL_law_553 rfl (lv_at hl 0 rfl) ?_
          refine lv_iload hx hb dL_law_554 (lv_at hl 4 rfl) ?_
          refine lv_iconst (v := 1) hx hb dL_law_556 (by decide) ?_
          refine lv_iadd hx hb dL_law_557 ?_
          obtain ⟨zt83, qzt83, hf⟩ := gb_el hf
          refine gx_sld hx hb hX hbl hbA hw.2 qzt83 dL_law_558 ?_
          refine lv_aload_n hx hb dL_law_559 rfl (lv_at hl 0 rfl) ?_
          refine W.eq (g2 := F0 m 560 ls [.ref zb, .int zt83, .ref (gB E + zv1)]) rfl ?_
          refine lv_iload hx hb dL_law_560 (lv_at hl 4 rfl) ?_
          refine lv_iconst (v := 2) hx hb dL_law_562 (by decide) ?_
          refine lv_iadd hx hb dL_law_563 ?_
          obtain ⟨zt84, qzt84, hf⟩ := gb_el hf
          refine gx_sld hx hb hX hbl hbA hw.2 qzt84 dL_law_564 ?_
          obtain ⟨qizh85, hf⟩ := gg_el hf
          obtain ⟨zt86, zh85, qzh85, hf⟩ := gc_el hf
          refine gx_ki (gx_runV (As := [.int zt83, .int zt84]) (rest := []) X hw (c_X11_leave l E N zv1 zt83 zt84 zh qzh85) kX11_leave mm_L_58 qizh85 clX11 ⟨by dsimp only [room_1, rm_X11_leave]; omega, by dsimp only [room_1, rm_X11_leave]; omega⟩ rfl rfl rfl hl.1 (Nat.le_of_ble_eq_true rfl) rfl dL_law_565 ⟨by dsimp only [room_1]; omega, by dsimp only [room_1]; omega⟩) hw (fun H locs hw => ?_)
          refine lv_aload_n hx hb dL_law_568 rfl (lv_at hl 2 rfl) ?_
          refine lv_aload_n hx hb dL_law_569 rfl (lv_at hl 0 rfl) ?_
          refine lv_iload hx hb dL_law_570 (lv_at hl 4 rfl) ?_
          refine lv_iconst (v := 1) hx hb dL_law_572 (by decide) ?_
          refine lv_iadd hx hb dL_law_573 ?_
          refine W.eq (g2 := F0 m 574 ls [.int (zv4 + 1), .ref zb, .ref (gB E + zv2), .int zt86]) rfl ?_
          obtain ⟨zt87, qzt87, hf⟩ := gb_el hf
          refine gx_sld hx hb hX hbl hbA hw.2 qzt87 dL_law_574 ?_
          refine lv_aload_n hx hb dL_law_575 rfl (lv_at hl 0 rfl) ?_
          refine lv_iload hx hb dL_law_576 (lv_at hl 4 rfl) ?_
          refine lv_iconst (v := 2) hx hb dL_law_578 (by decide) ?_
          refine lv_iadd hx hb dL_law_579 ?_
          obtain ⟨zt88, qzt88, hf⟩ := gb_el hf
          refine gx_sld hx hb hX hbl hbA hw.2 qzt88 dL_law_580 ?_
          obtain ⟨qizh89, hf⟩ := gg_el hf
          obtain ⟨zt90, zh89, qzh89, hf⟩ := gc_el hf
          refine gx_ki (gx_runV (As := [.int zt87, .int zt88]) (rest := [.int zt86]) X hw (c_X12_leave l E N zv2 zt87 zt88 zh85 qzh89) kX12_leave mm_L_61 qizh89 clX12 ⟨by dsimp only [room_1, rm_X12_leave]; omega, by dsimp only [room_1, rm_X12_leave]; omega⟩ rfl rfl rfl hl.1 (Nat.le_of_ble_eq_true rfl) rfl dL_law_581 ⟨by dsimp only [room_1]; omega, by dsimp only [room_1]; omega⟩) hw (fun H locs hw => ?_)
          refine lv_icmp_eq (tgt := 1264) hx hb dL_law_584 (by decide) (fun qc91 => ?_) (fun qc91 => ?_)
          · have hf := gif_t hf qc91
            refine W.widen (k := 111 + 52 * (513 - (zn23 + 1)) + 52) (n := 24833 + 1512 * (513 - (zn23 + 1)) + 1512) (by omega) (by omega) ?_
            exact J_1264 zv0 zv1 zv2 zv3 zv4 _ _ _ ls hf hw (lv_sub hl [0, 1, 2, 3, 4] rfl)
          · have hf := gif_f hf qc91
            refine lv_iconst (v := 0) hx hb dL_law_587 (by decide) ?_
            exact absurd (Prod.mk.inj (Option.some.inj hf)).1 (by decide)
        have hf := gif_f hf qc82
        by_cases qc92 : ((zt2 &&& 31) : Int32) = 8
        · have hf := gif_t hf qc92
          refine lv_tableIn (off := 549) (tgt := 589) hx hb dL_law_40 (by rw [qc92]; decide) (by rw [qc92]; decide) (by rw [qc92]; rfl) (by decide) ?_
          refine lv_aload_n hx hb dL_law_589 rfl (lv_at hl 1 rfl) ?_
          obtain ⟨qizh93, hf⟩ := gg_el hf
          obtain ⟨zt94, zh93, qzh93, hf⟩ := gc_el hf
          refine gx_ki (gx_runV (As := []) (rest := []) X hw (c_X11_over l E N zv1 zh qzh93) kX11_over mm_L_62 qizh93 clX11 ⟨by dsimp only [room_1, rm_X11_over]; omega, by dsimp only [room_1, rm_X11_over]; omega⟩ rfl rfl rfl hl.1 (Nat.le_of_ble_eq_true rfl) rfl dL_law_590 ⟨by dsimp only [room_1]; omega, by dsimp only [room_1]; omega⟩) hw (fun H locs hw => ?_)
          refine lv_aload_n hx hb dL_law_593 rfl (lv_at hl 2 rfl) ?_
          obtain ⟨qizh95, hf⟩ := gg_el hf
          obtain ⟨zt96, zh95, qzh95, hf⟩ := gc_el hf
          refine gx_ki (gx_runV (As := []) (rest := [.int zt94]) X hw (c_X12_over l E N zv2 zh93 qzh95) kX12_over mm_L_65 qizh95 clX12 ⟨by dsimp only [room_1, rm_X12_over]; omega, by dsimp only [room_1, rm_X12_over]; omega⟩ rfl rfl rfl hl.1 (Nat.le_of_ble_eq_true rfl) rfl dL_law_594 ⟨by dsimp only [room_1]; omega, by dsimp only [room_1]; omega⟩) hw (fun H locs hw => ?_)
          refine lv_icmp_eq (tgt := 1264) hx hb dL_law_597 (by decide) (fun qc97 => ?_) (fun qc97 => ?_)
          · have hf := gif_t hf qc97
            refine W.widen (k := 111 + 52 * (513 - (zn23 + 1)) + 52) (n := 24833 + 1512 * (513 - (zn23 + 1)) + 1512) (by omega) (by omega) ?_
            exact J_1264 zv0 zv1 zv2 zv3 zv4 _ _ _ ls hf hw (lv_sub hl [0, 1, 2, 3, 4] rfl)
          · have hf := gif_f hf qc97
            refine lv_iconst (v := 0) hx hb dL_law_600 (by decide) ?_
            exact absurd (Prod.mk.inj (Option.some.inj hf)).1 (by decide)
        have hf := gif_f hf qc92
        by_cases qc98 : ((zt2 &&& 31) : Int32) = 9
        · have hf := gif_t hf qc98
          refine lv_tableIn (off := 562) (tgt := 602) hx hb dL_law_40 (by rw [qc98]; decide) (by rw [qc98]; decide) (by rw [qc98]; rfl) (by decide) ?_
          refine lv_aload_n hx hb dL_law_602 rfl (lv_at hl 1 rfl) ?_
          refine lv_aload_n hx hb dL_law_603 rfl (lv_at hl 0 rfl) ?_
          refine lv_iload hx hb dL_law_604 (lv_at hl 4 rfl) ?_
          refine lv_iconst (v := 1) hx hb dL_law_606 (by decide) ?_
          refine lv_iadd hx hb dL_law_607 ?_
          obtain ⟨zt99, qzt99, hf⟩ := gb_el hf
          refine gx_sld hx hb hX hbl hbA hw.2 qzt99 dL_law_608 ?_
          obtain ⟨qizh100, hf⟩ := gg_el hf
          obtain ⟨zt101, zh100, qzh100, hf⟩ := gc_el hf
          refine gx_ki (gx_runV (As := [.int zt99]) (rest := []) X hw (c_X11_sum l E N zv1 zt99 zh qzh100) kX11_sum mm_L_66 qizh100 clX11 ⟨by dsimp only [room_1, rm_X11_sum]; omega, by dsimp only [room_1, rm_X11_sum]; omega⟩ rfl rfl rfl hl.1 (Nat.le_of_ble_eq_true rfl) rfl dL_law_609 ⟨by dsimp only [room_1]; omega, by dsimp only [room_1]; omega⟩) hw (fun H locs hw => ?_)
          refine W.eq (g2 := F0 m 612 ls [.int zt101]) rfl ?_
          refine lv_aload_n hx hb dL_law_612 rfl (lv_at hl 2 rfl) ?_
          refine lv_aload_n hx hb dL_law_613 rfl (lv_at hl 0 rfl) ?_
          refine lv_iload hx hb dL_law_614 (lv_at hl 4 rfl) ?_
          refine lv_iconst (v := 1) hx hb dL_law_616 (by decide) ?_
          refine lv_iadd hx hb dL_law_617 ?_
          obtain ⟨zt102, qzt102, hf⟩ := gb_el hf
          refine gx_sld hx hb hX hbl hbA hw.2 qzt102 dL_law_618 ?_
          obtain ⟨qizh103, hf⟩ := gg_el hf
          obtain ⟨zt104, zh103, qzh103, hf⟩ := gc_el hf
          refine gx_ki (gx_runV (As := [.int zt102]) (rest := [.int zt101]) X hw (c_X12_sum l E N zv2 zt102 zh100 qzh103) kX12_sum mm_L_70 qizh103 clX12 ⟨by dsimp only [room_1, rm_X12_sum]; omega, by dsimp only [room_1, rm_X12_sum]; omega⟩ rfl rfl rfl hl.1 (Nat.le_of_ble_eq_true rfl) rfl dL_law_619 ⟨by dsimp only [room_1]; omega, by dsimp only [room_1]; omega⟩) hw (fun H locs hw => ?_)
          refine lv_icmp_eq (tgt := 1264) hx hb dL_law_622 (by decide) (fun qc105 => ?_) (fun qc105 => ?_)
          · have hf := gif_t hf qc105
            refine W.widen (k := 111 + 52 * (513 - (zn23 + 1)) + 52) (n := 24833 + 1512 * (513 - (zn23 + 1)) + 1512) (by omega) (by omega) ?_
            exact J_1264 zv0 zv1 zv2 zv3 zv4 _ _ _ ls hf hw (lv_sub hl [0, 1, 2, 3, 4] rfl)
          · have hf := gif_f hf qc105
            refine lv_iconst (v := 0) hx hb dL_law_625 (by decide) ?_
            exact absurd (Prod.mk.inj (Option.some.inj hf)).1 (by decide)
        have hf := gif_f hf qc98
        by_cases qc106 : ((zt2 &&& 31) : Int32) = 10
        · have hf := gif_t hf qc106
          refine lv_tableIn (off := 587) (tgt := 627) hx hb dL_law_40 (by rw [qc106]; decide) (by rw [qc106]; decide) (by rw [qc106]; rfl) (by decide) ?_
          refine lv_aload_n hx hb dL_law_627 rfl (lv_at hl 1 rfl) ?_
          refine lv_aload_n hx hb dL_law_628 rfl (lv_at hl 0 rfl) ?_
          refine lv_iload hx hb dL_law_629 (lv_at hl 4 rfl) ?_
          refine lv_iconst (v := 1) hx hb dL_law_631 (by decide) ?_
          refine lv_iadd hx hb dL_law_632 ?_
          obtain ⟨zt107, qzt107, hf⟩ := gb_el hf
          refine gx_sld hx hb hX hbl hbA hw.2 qzt107 dL_law_633 ?_
          refine lv_aload_n hx hb dL_law_634 rfl (lv_at hl 0 rfl) ?_
          refine W.eq (g2 := F0 m 635 ls [.ref zb, .int zt107, .ref (gB E + zv1)]) rfl ?_
          refine lv_iload hx hb dL_law_635 (lv_at hl 4 rfl) ?_
          refine lv_iconst (v := 2) hx hb dL_law_637 (by decide) ?_
          refine lv_iadd hx hb dL_law_638 ?_
          obtain ⟨zt108, qzt108, hf⟩ := gb_el hf
          refine gx_sld hx hb hX hbl hbA hw.2 qzt108 dL_law_639 ?_
          obtain ⟨qizh109, hf⟩ := gg_el hf
          obtain ⟨zt110, zh109, qzh109, hf⟩ := gc_el hf
          refine gx_ki (gx_runV (As := [.int zt107, .int zt108]) (rest := []) X hw (c_X11_where l E N zv1 zt107 zt108 zh qzh109) kX11_where mm_L_71 qizh109 clX11 ⟨by dsimp only [room_1, rm_X11_where]; omega, by dsimp only [room_1, rm_X11_where]; omega⟩ rfl rfl rfl hl.1 (Nat.le_of_ble_eq_true rfl) rfl dL_law_640 ⟨by dsimp only [room_1]; omega, by dsimp only [room_1]; omega⟩) hw (fun H locs hw => ?_)
          refine lv_aload_n hx hb dL_law_643 rfl (lv_at hl 2 rfl) ?_
          refine lv_aload_n hx hb dL_law_644 rfl (lv_at hl 0 rfl) ?_
          refine lv_iload hx hb dL_law_645 (lv_at hl 4 rfl) ?_
          refine lv_iconst (v := 1) hx hb dL_law_647 (by decide) ?_
          refine lv_iadd hx hb dL_law_648 ?_
          refine W.eq (g2 := F0 m 649 ls [.int (zv4 + 1), .ref zb, .ref (gB E + zv2), .int zt110]) rfl ?_
          obtain ⟨zt111, qzt111, hf⟩ := gb_el hf
          refine gx_sld hx hb hX hbl hbA hw.2 qzt111 dL_law_649 ?_
          refine lv_aload_n hx hb dL_law_650 rfl (lv_at hl 0 rfl) ?_
          refine lv_iload hx hb dL_law_651 (lv_at hl 4 rfl) ?_
          refine lv_iconst (v := 2) hx hb dL_law_653 (by decide) ?_
          refine lv_iadd hx hb dL_law_654 ?_
          obtain ⟨zt112, qzt112, hf⟩ := gb_el hf
          refine gx_sld hx hb hX hbl hbA hw.2 qzt112 dL_law_655 ?_
          obtain ⟨qizh113, hf⟩ := gg_el hf
          obtain ⟨zt114, zh113, qzh113, hf⟩ := gc_el hf
          refine gx_ki (gx_runV (As := [.int zt111, .int zt112]) (rest := [.int zt110]) X hw (c_X12_where l E N zv2 zt111 zt112 zh109 qzh113) kX12_where mm_L_74 qizh113 clX12 ⟨by dsimp only [room_1, rm_X12_where]; omega, by dsimp only [room_1, rm_X12_where]; omega⟩ rfl rfl rfl hl.1 (Nat.le_of_ble_eq_true rfl) rfl dL_law_656 ⟨by dsimp only [room_1]; omega, by dsimp only [room_1]; omega⟩) hw (fun H locs hw => ?_)
          refine lv_icmp_eq (tgt := 1264) hx hb dL_law_659 (by decide) (fun qc115 => ?_) (fun qc115 => ?_)
          · have hf := gif_t hf qc115
            refine W.widen (k := 111 + 52 * (513 - (zn23 + 1)) + 52) (n := 24833 + 1512 * (513 - (zn23 + 1)) + 1512) (by omega) (by omega) ?_
            exact J_1264 zv0 zv1 zv2 zv3 zv4 _ _ _ ls hf hw (lv_sub hl [0, 1, 2, 3, 4] rfl)
          · have hf := gif_f hf qc115
            refine lv_iconst (v := 0) hx hb dL_law_662 (by decide) ?_
            exact absurd (Prod.mk.inj (Option.some.inj hf)).1 (by decide)
        have hf := gif_f hf qc106
        by_cases qc116 : ((zt2 &&& 31) : Int32) = 11
        · have hf := gif_t hf qc116
          refine lv_tableIn (off := 624) (tgt := 664) hx hb dL_law_40 (by rw [qc116]; decide) (by rw [qc116]; decide) (by rw [qc116]; rfl) (by decide) ?_
          refine lv_aload_n hx hb dL_law_664 rfl (lv_at hl 1 rfl) ?_
          refine lv_aload_n hx hb dL_law_665 rfl (lv_at hl 0 rfl) ?_
          refine lv_iload hx hb dL_law_666 (lv_at hl 4 rfl) ?_
          refine lv_iconst (v := 1) hx hb dL_law_668 (by decide) ?_
          refine lv_iadd hx hb dL_law_669 ?_
          obtain ⟨zt117, qzt117, hf⟩ := gb_el hf
          refine gx_sld hx hb hX hbl hbA hw.2 qzt117 dL_law_670 ?_
          refine lv_aload_n hx hb dL_law_671 rfl (lv_at hl 0 rfl) ?_
          refine W.eq (g2 := F0 m 672 ls [.ref zb, .int zt117, .ref (gB E + zv1)]) rfl ?_
          refine lv_iload hx hb dL_law_672 (lv_at hl 4 rfl) ?_
          refine lv_iconst (v := 2) hx hb dL_law_674 (by decide) ?_
          refine lv_iadd hx hb dL_law_675 ?_
          obtain ⟨zt118, qzt118, hf⟩ := gb_el hf
          refine gx_sld hx hb hX hbl hbA hw.2 qzt118 dL_law_676 ?_
          obtain ⟨qizh119, hf⟩ := gg_el hf
          obtain ⟨zt120, zh119, qzh119, hf⟩ := gc_el hf
          refine gx_ki (gx_runV (As := [.int zt117, .int zt118]) (rest := []) X hw (c_X11_who l E N zv1 zt117 zt118 zh qzh119) kX11_who mm_L_75 qizh119 clX11 ⟨by dsimp only [room_1, rm_X11_who]; omega, by dsimp only [room_1, rm_X11_who]; omega⟩ rfl rfl rfl hl.1 (Nat.le_of_ble_eq_true rfl) rfl dL_law_677 ⟨by dsimp only [room_1]; omega, by dsimp only [room_1]; omega⟩) hw (fun H locs hw => ?_)
          refine lv_aload_n hx hb dL_law_680 rfl (lv_at hl 2 rfl) ?_
          refine lv_aload_n hx hb dL_law_681 rfl (lv_at hl 0 rfl) ?_
          refine lv_iload hx hb dL_law_682 (lv_at hl 4 rfl) ?_
          refine lv_iconst (v := 1) hx hb dL_law_684 (by decide) ?_
          refine lv_iadd hx hb dL_law_685 ?_
          refine W.eq (g2 := F0 m 686 ls [.int (zv4 + 1), .ref zb, .ref (gB E + zv2), .int zt120]) rfl ?_
          obtain ⟨zt121, qzt121, hf⟩ := gb_el hf
          refine gx_sld hx hb hX hbl hbA hw.2 qzt121 dL_law_686 ?_
          refine lv_aload_n hx hb dL_law_687 rfl (lv_at hl 0 rfl) ?_
          refine lv_iload hx hb dL_law_688 (lv_at hl 4 rfl) ?_
          refine lv_iconst (v := 2) hx hb dL_law_690 (by decide) ?_
          refine lv_iadd hx hb dL_law_691 ?_
          obtain ⟨zt122, qzt122, hf⟩ := gb_el hf
          refine gx_sld hx hb hX hbl hbA hw.2 qzt122 dL_law_692 ?_
          obtain ⟨qizh123, hf⟩ := gg_el hf
          obtain ⟨zt124, zh123, qzh123, hf⟩ := gc_el hf
          refine gx_ki (gx_runV (As := [.int zt121, .int zt122]) (rest := [.int zt120]) X hw (c_X12_who l E N zv2 zt121 zt122 zh119 qzh123) kX12_who mm_L_78 qizh123 clX12 ⟨by dsimp only [room_1, rm_X12_who]; omega, by dsimp only [room_1, rm_X12_who]; omega⟩ rfl rfl rfl hl.1 (Nat.le_of_ble_eq_true rfl) rfl dL_law_693 ⟨by dsimp only [room_1]; omega, by dsimp only [room_1]; omega⟩) hw (fun H locs hw => ?_)
          refine lv_icmp_eq (tgt := 1264) hx hb dL_law_696 (by decide) (fun qc125 => ?_) (fun qc125 => ?_)
          · have hf := gif_t hf qc125
            refine W.widen (k := 111 + 52 * (513 - (zn23 + 1)) + 52) (n := 24833 + 1512 * (513 - (zn23 + 1)) + 1512) (by omega) (by omega) ?_
            exact J_1264 zv0 zv1 zv2 zv3 zv4 _ _ _ ls hf hw (lv_sub hl [0, 1, 2, 3, 4] rfl)
          · have hf := gif_f hf qc125
            refine lv_iconst (v := 0) hx hb dL_law_699 (by decide) ?_
            exact absurd (Prod.mk.inj (Option.some.inj hf)).1 (by decide)
        have hf := gif_f hf qc116
        by_cases qc126 : ((zt2 &&& 31) : Int32) = 12
        · have hf := gif_t hf qc126
          refine lv_tableIn (off := 661) (tgt := 701) hx hb dL_law_40 (by rw [qc126]; decide) (by rw [qc126]; decide) (by rw [qc126]; rfl) (by decide) ?_
          refine lv_aload_n hx hb dL_law_701 rfl (lv_at hl 1 rfl) ?_
          refine lv_aload_n hx hb dL_law_702 rfl (lv_at hl 0 rfl) ?_
          refine lv_iload hx hb dL_law_703 (lv_at hl 4 rfl) ?_
          refine lv_iconst (v := 1) hx hb dL_law_705 (by decide) ?_
          refine lv_iadd hx hb dL_law_706 ?_
          obtain ⟨zt127, qzt127, hf⟩ := gb_el hf
          refine gx_sld hx hb hX hbl hbA hw.2 qzt127 dL_law_707 ?_
          refine lv_aload_n hx hb dL_law_708 rfl (lv_at hl 0 rfl) ?_
          refine W.eq (g2 := F0 m 709 ls [.ref zb, .int zt127, .ref (gB E + zv1)]) rfl ?_
          refine lv_iload hx hb dL_law_709 (lv_at hl 4 rfl) ?_
          refine lv_iconst (v := 2) hx hb dL_law_711 (by decide) ?_
          refine lv_iadd hx hb dL_law_712 ?_
          obtain ⟨zt128, qzt128, hf⟩ := gb_el hf
          refine gx_sld hx hb hX hbl hbA hw.2 qzt128 dL_law_713 ?_
          refine lv_aload_n hx hb dL_law_714 rfl (lv_at hl 0 rfl) ?_
          refine lv_iload hx hb dL_law_715 (lv_at hl 4 rfl) ?_
          refine lv_iconst (v := 3) hx hb dL_law_717 (by decide) ?_
          refine lv_iadd hx hb dL_law_718 ?_
          obtain ⟨zt129, qzt129, hf⟩ := gb_el hf
          refine gx_sld hx hb hX hbl hbA hw.2 qzt129 dL_law_719 ?_
          obtain ⟨qizh130, hf⟩ := gg_el hf
          obtain ⟨zt131, zh130, qzh130, hf⟩ := gc_el hf
          refine gx_ki (gx_runV (As := [.int zt127, .int zt128, .int zt129]) (rest := []) X hw (c_X11_letter l E N zv1 zt127 zt128 zt129 zh qzh130) kX11_letter mm_L_79 qizh130 clX11 ⟨by dsimp only [room_1, rm_X11_letter]; omega, by dsimp only [room_1, rm_X11_letter]; omega⟩ rfl rfl rfl hl.1 (Nat.le_of_ble_eq_true rfl) rfl dL_law_720 ⟨by dsimp only [room_1]; omega, by dsimp only [room_1]; omega⟩) hw (fun H locs hw => ?_)
          refine W.eq (g2 := F0 m 723 ls [.int zt131]) rfl ?_
          refine lv_aload_n hx hb dL_law_723 rfl (lv_at hl 2 rfl) ?_
          refine lv_aload_n hx hb dL_law_724 rfl (lv_at hl 0 rfl) ?_
          refine lv_iload hx hb dL_law_725 (lv_at hl 4 rfl) ?_
          refine lv_iconst (v := 1) hx hb dL_law_727 (by decide) ?_
          refine lv_iadd hx hb dL_law_728 ?_
          obtain ⟨zt132, qzt132, hf⟩ := gb_el hf
          refine gx_sld hx hb hX hbl hbA hw.2 qzt132 dL_law_729 ?_
          refine lv_aload_n hx hb dL_law_730 rfl (lv_at hl 0 rfl) ?_
          refine lv_iload hx hb dL_law_731 (lv_at hl 4 rfl) ?_
          refine lv_iconst (v := 2) hx hb dL_law_733 (by decide) ?_
          refine lv_iadd hx hb dL_law_734 ?_
          refine W.eq (g2 := F0 m 735 ls [.int (zv4 + 2), .ref zb, .int zt132, .ref (gB E + zv2), .int zt131]) rfl ?_
          obtain ⟨zt133, qzt133, hf⟩ := gb_el hf
          refine gx_sld hx hb hX hbl hbA hw.2 qzt133 dL_law_735 ?_
          refine lv_aload_n hx hb dL_law_736 rfl (lv_at hl 0 rfl) ?_
          refine lv_iload hx hb dL_law_737 (lv_at hl 4 rfl) ?_
          refine lv_iconst (v := 3) hx hb dL_law_739 (by decide) ?_
          refine lv_iadd hx hb dL_law_740 ?_
          obtain ⟨zt134, qzt134, hf⟩ := gb_el hf
          refine gx_sld hx hb hX hbl hbA hw.2 qzt134 dL_law_741 ?_
          obtain ⟨qizh135, hf⟩ := gg_el hf
          obtain ⟨zt136, zh135, qzh135, hf⟩ := gc_el hf
          refine gx_ki (gx_runV (As := [.int zt132, .int zt133, .int zt134]) (rest := [.int zt131]) X hw (c_X12_letter l E N zv2 zt132 zt133 zt134 zh130 qzh135) kX12_letter mm_L_82 qizh135 clX12 ⟨by dsimp only [room_1, rm_X12_letter]; omega, by dsimp only [room_1, rm_X12_letter]; omega⟩ rfl rfl rfl hl.1 (Nat.le_of_ble_eq_true rfl) rfl dL_law_742 ⟨by dsimp only [room_1]; omega, by dsimp only [room_1]; omega⟩) hw (fun H locs hw => ?_)
          refine lv_icmp_eq (tgt := 1264) hx hb dL_law_745 (by decide) (fun qc137 => ?_) (fun qc137 => ?_)
          · have hf := gif_t hf qc137
            refine W.widen (k := 111 + 52 * (513 - (zn23 + 1)) + 52) (n := 24833 + 1512 * (513 - (zn23 + 1)) + 1512) (by omega) (by omega) ?_
            exact J_1264 zv0 zv1 zv2 zv3 zv4 _ _ _ ls hf hw (lv_sub hl [0, 1, 2, 3, 4] rfl)
          · have hf := gif_f hf qc137
            refine lv_iconst (v := 0) hx hb dL_law_748 (by decide) ?_
            exact absurd (Prod.mk.inj (Option.some.inj hf)).1 (by decide)
        have hf := gif_f hf qc126
        by_cases qc138 : ((zt2 &&& 31) : Int32) = 13
        · have hf := gif_t hf qc138
          refine lv_tableIn (off := 710) (tgt := 750) hx hb dL_law_40 (by rw [qc138]; decide) (by rw [qc138]; decide) (by rw [qc138]; rfl) (by decide) ?_
          refine lv_aload_n hx hb dL_law_750 rfl (lv_at hl 1 rfl) ?_
          refine lv_aload_n hx hb dL_law_751 rfl (lv_at hl 0 rfl) ?_
          refine lv_iload hx hb dL_law_752 (lv_at hl 4 rfl) ?_
          refine lv_iconst (v := 1) hx hb dL_law_754 (by decide) ?_
          refine lv_iadd hx hb dL_law_755 ?_
          obtain ⟨zt139, qzt139, hf⟩ := gb_el hf
          refine gx_sld hx hb hX hbl hbA hw.2 qzt139 dL_law_756 ?_
          refine lv_aload_n hx hb dL_law_757 rfl (lv_at hl 0 rfl) ?_
          refine W.eq (g2 := F0 m 758 ls [.ref zb, .int zt139, .ref (gB E + zv1)]) rfl ?_
          refine lv_iload hx hb dL_law_758 (lv_at hl 4 rfl) ?_
          refine lv_iconst (v := 2) hx hb dL_law_760 (by decide) ?_
          refine lv_iadd hx hb dL_law_761 ?_
          obtain ⟨zt140, qzt140, hf⟩ := gb_el hf
          refine gx_sld hx hb hX hbl hbA hw.2 qzt140 dL_law_762 ?_
          refine lv_aload_n hx hb dL_law_763 rfl (lv_at hl 0 rfl) ?_
          refine lv_iload hx hb dL_law_764 (lv_at hl 4 rfl) ?_
          refine lv_iconst (v := 3) hx hb dL_law_766 (by decide) ?_
          refine lv_iadd hx hb dL_law_767 ?_
          obtain ⟨zt141, qzt141, hf⟩ := gb_el hf
          refine gx_sld hx hb hX hbl hbA hw.2 qzt141 dL_law_768 ?_
          obtain ⟨qizh142, hf⟩ := gg_el hf
          obtain ⟨zt143, zh142, qzh142, hf⟩ := gc_el hf
          refine gx_ki (gx_runV (As := [.int zt139, .int zt140, .int zt141]) (rest := []) X hw (c_X11_trunk l E N zv1 zt139 zt140 zt141 zh qzh142) kX11_trunk mm_L_83 qizh142 clX11 ⟨by dsimp only [room_1, rm_X11_trunk]; omega, by dsimp only [room_1, rm_X11_trunk]; omega⟩ rfl rfl rfl hl.1 (Nat.le_of_ble_eq_true rfl) rfl dL_law_769 ⟨by dsimp only [room_1]; omega, by dsimp only [room_1]; omega⟩) hw (fun H locs hw => ?_)
          refine W.eq (g2 := F0 m 772 ls [.int zt143]) rfl ?_
          refine lv_aload_n hx hb dL_law_772 rfl (lv_at hl 2 rfl) ?_
          refine lv_aload_n hx hb dL_law_773 rfl (lv_at hl 0 rfl) ?_
          refine lv_iload hx hb dL_law_774 (lv_at hl 4 rfl) ?_
          refine lv_iconst (v := 1) hx hb dL_law_776 (by decide) ?_
          refine lv_iadd hx hb dL_law_777 ?_
          obtain ⟨zt144, qzt144, hf⟩ := gb_el hf
          refine gx_sld hx hb hX hbl hbA hw.2 qzt144 dL_law_778 ?_
          refine lv_aload_n hx hb dL_law_779 rfl (lv_at hl 0 rfl) ?_
          refine lv_iload hx hb dL_law_780 (lv_at hl 4 rfl) ?_
          refine lv_iconst (v := 2) hx hb dL_law_782 (by decide) ?_
          refine lv_iadd hx hb dL_law_783 ?_
          refine W.eq (g2 := F0 m 784 ls [.int (zv4 + 2), .ref zb, .int zt144, .ref (gB E + zv2), .int zt143]) rfl ?_
          obtain ⟨zt145, qzt145, hf⟩ := gb_el hf
          refine gx_sld hx hb hX hbl hbA hw.2 qzt145 dL_law_784 ?_
          refine lv_aload_n hx hb dL_law_785 rfl (lv_at hl 0 rfl) ?_
          refine lv_iload hx hb dL_law_786 (lv_at hl 4 rfl) ?_
          refine lv_iconst (v := 3) hx hb dL_law_788 (by decide) ?_
          refine lv_iadd hx hb dL_law_789 ?_
          obtain ⟨zt146, qzt146, hf⟩ := gb_el hf
          refine gx_sld hx hb hX hbl hbA hw.2 qzt146 dL_law_790 ?_
          obtain ⟨qizh147, hf⟩ := gg_el hf
          obtain ⟨zt148, zh147, qzh147, hf⟩ := gc_el hf
          refine gx_ki (gx_runV (As := [.int zt144, .int zt145, .int zt146]) (rest := [.int zt143]) X hw (c_X12_trunk l E N zv2 zt144 zt145 zt146 zh142 qzh147) kX12_trunk mm_L_86 qizh147 clX12 ⟨by dsimp only [room_1, rm_X12_trunk]; omega, by dsimp only [room_1, rm_X12_trunk]; omega⟩ rfl rfl rfl hl.1 (Nat.le_of_ble_eq_true rfl) rfl dL_law_791 ⟨by dsimp only [room_1]; omega, by dsimp only [room_1]; omega⟩) hw (fun H locs hw => ?_)
          refine lv_icmp_eq (tgt := 1264) hx hb dL_law_794 (by decide) (fun qc149 => ?_) (fun qc149 => ?_)
          · have hf := gif_t hf qc149
            refine W.widen (k := 111 + 52 * (513 - (zn23 + 1)) + 52) (n := 24833 + 1512 * (513 - (zn23 + 1)) + 1512) (by omega) (by omega) ?_
            exact J_1264 zv0 zv1 zv2 zv3 zv4 _ _ _ ls hf hw (lv_sub hl [0, 1, 2, 3, 4] rfl)
          · have hf := gif_f hf qc149
            refine lv_iconst (v := 0) hx hb dL_law_797 (by decide) ?_
            exact absurd (Prod.mk.inj (Option.some.inj hf)).1 (by decide)
        have hf := gif_f hf qc138
        by_cases qc150 : ((zt2 &&& 31) : Int32) = 14
        · have hf := gif_t hf qc150
          refine lv_tableIn (off := 759) (tgt := 799) hx hb dL_law_40 (by rw [qc150]; decide) (by rw [qc150]; decide) (by rw [qc150]; rfl) (by decide) ?_
          refine lv_aload_n hx hb dL_law_799 rfl (lv_at hl 1 rfl) ?_
          refine lv_aload_n hx hb dL_law_800 rfl (lv_at hl 0 rfl) ?_
          refine lv_iload hx hb dL_law_801 (lv_at hl 4 rfl) ?_
          refine lv_iconst (v := 1) hx hb dL_law_803 (by decide) ?_
          refine lv_iadd hx hb dL_law_804 ?_
          obtain ⟨zt151, qzt151, hf⟩ := gb_el hf
          refine gx_sld hx hb hX hbl hbA hw.2 qzt151 dL_law_805 ?_
          refine lv_aload_n hx hb dL_law_806 rfl (lv_at hl 0 rfl) ?_
          refine W.eq (g2 := F0 m 807 ls [.ref zb, .int zt151, .ref (gB E + zv1)]) rfl ?_
          refine lv_iload hx hb dL_law_807 (lv_at hl 4 rfl) ?_
          refine lv_iconst (v := 2) hx hb dL_law_809 (by decide) ?_
          refine lv_iadd hx hb dL_law_810 ?_
          obtain ⟨zt152, qzt152, hf⟩ := gb_el hf
          refine gx_sld hx hb hX hbl hbA hw.2 qzt152 dL_law_811 ?_
          refine lv_aload_n hx hb dL_law_812 rfl (lv_at hl 0 rfl) ?_
          refine lv_iload hx hb dL_law_813 (lv_at hl 4 rfl) ?_
          refine lv_iconst (v := 3) hx hb dL_law_815 (by decide) ?_
          refine lv_iadd hx hb dL_law_816 ?_
          obtain ⟨zt153, qzt153, hf⟩ := gb_el hf
          refine gx_sld hx hb hX hbl hbA hw.2 qzt153 dL_law_817 ?_
          obtain ⟨qizh154, hf⟩ := gg_el hf
          obtain ⟨zt155, zh154, qzh154, hf⟩ := gc_el hf
          refine gx_ki (gx_runV (As := [.int zt151, .int zt152, .int zt153]) (rest := []) X hw (c_X11_sight l E N zv1 zt151 zt152 zt153 zh qzh154) kX11_sight mm_L_87 qizh154 clX11 ⟨by dsimp only [room_1, rm_X11_sight]; omega, by dsimp only [room_1, rm_X11_sight]; omega⟩ rfl rfl rfl hl.1 (Nat.le_of_ble_eq_true rfl) rfl dL_law_818 ⟨by dsimp only [room_1]; omega, by dsimp only [room_1]; omega⟩) hw (fun H locs hw => ?_)
          refine W.eq (g2 := F0 m 821 ls [.int zt155]) rfl ?_
          refine lv_aload_n hx hb dL_law_821 rfl (lv_at hl 2 rfl) ?_
          refine lv_aload_n hx hb dL_law_822 rfl (lv_at hl 0 rfl) ?_
          refine lv_iload hx hb dL_law_823 (lv_at hl 4 rfl) ?_
          refine lv_iconst (v := 1) hx hb dL_law_825 (by decide) ?_
          refine lv_iadd hx hb dL_law_826 ?_
          obtain ⟨zt156, qzt156, hf⟩ := gb_el hf
          refine gx_sld hx hb hX hbl hbA hw.2 qzt156 dL_law_827 ?_
          refine lv_aload_n hx hb dL_law_828 rfl (lv_at hl 0 rfl) ?_
          refine lv_iload hx hb dL_law_829 (lv_at hl 4 rfl) ?_
          refine lv_iconst (v := 2) hx hb dL_law_831 (by decide) ?_
          refine lv_iadd hx hb dL_law_832 ?_
          refine W.eq (g2 := F0 m 833 ls [.int (zv4 + 2), .ref zb, .int zt156, .ref (gB E + zv2), .int zt155]) rfl ?_
          obtain ⟨zt157, qzt157, hf⟩ := gb_el hf
          refine gx_sld hx hb hX hbl hbA hw.2 qzt157 dL_law_833 ?_
          refine lv_aload_n hx hb dL_law_834 rfl (lv_at hl 0 rfl) ?_
          refine lv_iload hx hb dL_law_835 (lv_at hl 4 rfl) ?_
          refine lv_iconst (v := 3) hx hb dL_law_837 (by decide) ?_
          refine lv_iadd hx hb dL_law_838 ?_
          obtain ⟨zt158, qzt158, hf⟩ := gb_el hf
          refine gx_sld hx hb hX hbl hbA hw.2 qzt158 dL_law_839 ?_
          obtain ⟨qizh159, hf⟩ := gg_el hf
          obtain ⟨zt160, zh159, qzh159, hf⟩ := gc_el hf
          refine gx_ki (gx_runV (As := [.int zt156, .int zt157, .int zt158]) (rest := [.int zt155]) X hw (c_X12_sight l E N zv2 zt156 zt157 zt158 zh154 qzh159) kX12_sight mm_L_90 qizh159 clX12 ⟨by dsimp only [room_1, rm_X12_sight]; omega, by dsimp only [room_1, rm_X12_sight]; omega⟩ rfl rfl rfl hl.1 (Nat.le_of_ble_eq_true rfl) rfl dL_law_840 ⟨by dsimp only [room_1]; omega, by dsimp only [room_1]; omega⟩) hw (fun H locs hw => ?_)
          refine lv_icmp_eq (tgt := 1264) hx hb dL_law_843 (by decide) (fun qc161 => ?_) (fun qc161 => ?_)
          · have hf := gif_t hf qc161
            refine W.widen (k := 111 + 52 * (513 - (zn23 + 1)) + 52) (n := 24833 + 1512 * (513 - (zn23 + 1)) + 1512) (by omega) (by omega) ?_
            exact J_1264 zv0 zv1 zv2 zv3 zv4 _ _ _ ls hf hw (lv_sub hl [0, 1, 2, 3, 4] rfl)
          · have hf := gif_f hf qc161
            refine lv_iconst (v := 0) hx hb dL_law_846 (by decide) ?_
            exact absurd (Prod.mk.inj (Option.some.inj hf)).1 (by decide)
        have hf := gif_f hf qc150
        by_cases qc162 : ((zt2 &&& 31) : Int32) = 15
        · have hf := gif_t hf qc162
          refine lv_tableIn (off := 808) (tgt := 848) hx hb dL_law_40 (by rw [qc162]; decide) (by rw [qc162]; decide) (by rw [qc162]; rfl) (by decide) ?_
          refine lv_aload_n hx hb dL_law_848 rfl (lv_at hl 1 rfl) ?_
          refine lv_aload_n hx hb dL_law_849 rfl (lv_at hl 0 rfl) ?_
          refine lv_iload hx hb dL_law_850 (lv_at hl 4 rfl) ?_
          refine lv_iconst (v := 1) hx hb dL_law_852 (by decide) ?_
          refine lv_iadd hx hb dL_law_853 ?_
          obtain ⟨zt163, qzt163, hf⟩ := gb_el hf
          refine gx_sld hx hb hX hbl hbA hw.2 qzt163 dL_law_854 ?_
          refine lv_aload_n hx hb dL_law_855 rfl (lv_at hl 0 rfl) ?_
          refine W.eq (g2 := F0 m 856 ls [.ref zb, .int zt163, .ref (gB E + zv1)]) rfl ?_
          refine lv_iload hx hb dL_law_856 (lv_at hl 4 rfl) ?_
          refine lv_iconst (v := 2) hx hb dL_law_858 (by decide) ?_
          refine lv_iadd hx hb dL_law_859 ?_
          obtain ⟨zt164, qzt164, hf⟩ := gb_el hf
          refine gx_sld hx hb hX hbl hbA hw.2 qzt164 dL_law_860 ?_
          obtain ⟨qizh165, hf⟩ := gg_el hf
          obtain ⟨zt166, zh165, qzh165, hf⟩ := gc_el hf
          refine gx_ki (gx_runV (As := [.int zt163, .int zt164]) (rest := []) X hw (c_X11_could l E N zv1 zt163 zt164 zh qzh165) kX11_could mm_L_91 qizh165 clX11 ⟨by dsimp only [room_1, rm_X11_could]; omega, by dsimp only [room_1, rm_X11_could]; omega⟩ rfl rfl rfl hl.1 (Nat.le_of_ble_eq_true rfl) rfl dL_law_861 ⟨by dsimp only [room_1]; omega, by dsimp only [room_1]; omega⟩) hw (fun H locs hw => ?_)
          refine lv_aload_n hx hb dL_law_864 rfl (lv_at hl 2 rfl) ?_
          refine lv_aload_n hx hb dL_law_865 rfl (lv_at hl 0 rfl) ?_
          refine lv_iload hx hb dL_law_866 (lv_at hl 4 rfl) ?_
          refine lv_iconst (v := 1) hx hb dL_law_868 (by decide) ?_
          refine lv_iadd hx hb dL_law_869 ?_
          refine W.eq (g2 := F0 m 870 ls [.int (zv4 + 1), .ref zb, .ref (gB E + zv2), .int zt166]) rfl ?_
          obtain ⟨zt167, qzt167, hf⟩ := gb_el hf
          refine gx_sld hx hb hX hbl hbA hw.2 qzt167 dL_law_870 ?_
          refine lv_aload_n hx hb dL_law_871 rfl (lv_at hl 0 rfl) ?_
          refine lv_iload hx hb dL_law_872 (lv_at hl 4 rfl) ?_
          refine lv_iconst (v := 2) hx hb dL_law_874 (by decide) ?_
          refine lv_iadd hx hb dL_law_875 ?_
          obtain ⟨zt168, qzt168, hf⟩ := gb_el hf
          refine gx_sld hx hb hX hbl hbA hw.2 qzt168 dL_law_876 ?_
          obtain ⟨qizh169, hf⟩ := gg_el hf
          obtain ⟨zt170, zh169, qzh169, hf⟩ := gc_el hf
          refine gx_ki (gx_runV (As := [.int zt167, .int zt168]) (rest := [.int zt166]) X hw (c_X12_could l E N zv2 zt167 zt168 zh165 qzh169) kX12_could mm_L_94 qizh169 clX12 ⟨by dsimp only [room_1, rm_X12_could]; omega, by dsimp only [room_1, rm_X12_could]; omega⟩ rfl rfl rfl hl.1 (Nat.le_of_ble_eq_true rfl) rfl dL_law_877 ⟨by dsimp only [room_1]; omega, by dsimp only [room_1]; omega⟩) hw (fun H locs hw => ?_)
          refine lv_icmp_eq (tgt := 1264) hx hb dL_law_880 (by decide) (fun qc171 => ?_) (fun qc171 => ?_)
          · have hf := gif_t hf qc171
            refine W.widen (k := 111 + 52 * (513 - (zn23 + 1)) + 52) (n := 24833 + 1512 * (513 - (zn23 + 1)) + 1512) (by omega) (by omega) ?_
            exact J_1264 zv0 zv1 zv2 zv3 zv4 _ _ _ ls hf hw (lv_sub hl [0, 1, 2, 3, 4] rfl)
          · have hf := gif_f hf qc171
            refine lv_iconst (v := 0) hx hb dL_law_883 (by decide) ?_
            exact absurd (Prod.mk.inj (Option.some.inj hf)).1 (by decide)
        have hf := gif_f hf qc162
        by_cases qc172 : ((zt2 &&& 31) : Int32) = 16
        · have hf := gif_t hf qc172
          refine lv_tableIn (off := 845) (tgt := 885) hx hb dL_law_40 (by rw [qc172]; decide) (by rw [qc172]; decide) (by rw [qc172]; rfl) (by decide) ?_
          refine lv_aload_n hx hb dL_law_885 rfl (lv_at hl 1 rfl) ?_
          obtain ⟨qizh173, hf⟩ := gg_el hf
          obtain ⟨zt174, zh173, qzh173, hf⟩ := gc_el hf
          refine gx_ki (gx_runV (As := []) (rest := []) X hw (c_X11_liars l E N zv1 zh qzh173) kX11_liars mm_L_95 qizh173 clX11 ⟨by dsimp only [room_1, rm_X11_liars]; omega, by dsimp only [room_1, rm_X11_liars]; omega⟩ rfl rfl rfl hl.1 (Nat.le_of_ble_eq_true rfl) rfl dL_law_886 ⟨by dsimp only [room_1]; omega, by dsimp only [room_1]; omega⟩) hw (fun H locs hw => ?_)
          refine lv_aload_n hx hb dL_law_889 rfl (lv_at hl 2 rfl) ?_
          obtain ⟨qizh175, hf⟩ := gg_el hf
          obtain ⟨zt176, zh175, qzh175, hf⟩ := gc_el hf
          refine gx_ki (gx_runV (As := []) (rest := [.int zt174]) X hw (c_X12_liars l E N zv2 zh173 qzh175) kX12_liars mm_L_98 qizh175 clX12 ⟨by dsimp only [room_1, rm_X12_liars]; omega, by dsimp only [room_1, rm_X12_liars]; omega⟩ rfl rfl rfl hl.1 (Nat.le_of_ble_eq_true rfl) rfl dL_law_890 ⟨by dsimp only [room_1]; omega, by dsimp only [room_1]; omega⟩) hw (fun H locs hw => ?_)
          refine lv_icmp_eq (tgt := 1264) hx hb dL_law_893 (by decide) (fun qc177 => ?_) (fun qc177 => ?_)
          · have hf := gif_t hf qc177
            refine W.widen (k := 111 + 52 * (513 - (zn23 + 1)) + 52) (n := 24833 + 1512 * (513 - (zn23 + 1)) + 1512) (by omega) (by omega) ?_
            exact J_1264 zv0 zv1 zv2 zv3 zv4 _ _ _ ls hf hw (lv_sub hl [0, 1, 2, 3, 4] rfl)
          · have hf := gif_f hf qc177
            refine lv_iconst (v := 0) hx hb dL_law_896 (by decide) ?_
            exact absurd (Prod.mk.inj (Option.some.inj hf)).1 (by decide)
        have hf := gif_f hf qc172
        by_cases qc178 : ((zt2 &&& 31) : Int32) = 17
        · have hf := gif_t hf qc178
          refine lv_tableIn (off := 858) (tgt := 898) hx hb dL_law_40 (by rw [qc178]; decide) (by rw [qc178]; decide) (by rw [qc178]; rfl) (by decide) ?_
          refine lv_aload_n hx hb dL_law_898 rfl (lv_at hl 1 rfl) ?_
          refine lv_aload_n hx hb dL_law_899 rfl (lv_at hl 0 rfl) ?_
          refine lv_iload hx hb dL_law_900 (lv_at hl 4 rfl) ?_
          refine lv_iconst (v := 1) hx hb dL_law_902 (by decide) ?_
          refine lv_iadd hx hb dL_law_903 ?_
          obtain ⟨zt179, qzt179, hf⟩ := gb_el hf
          refine gx_sld hx hb hX hbl hbA hw.2 qzt179 dL_law_904 ?_
          refine lv_aload_n hx hb dL_law_905 rfl (lv_at hl 0 rfl) ?_
          refine W.eq (g2 := F0 m 906 ls [.ref zb, .int zt179, .ref (gB E + zv1)]) rfl ?_
          refine lv_iload hx hb dL_law_906 (lv_at hl 4 rfl) ?_
          refine lv_iconst (v := 2) hx hb dL_law_908 (by decide) ?_
          refine lv_iadd hx hb dL_law_909 ?_
          obtain ⟨zt180, qzt180, hf⟩ := gb_el hf
          refine gx_sld hx hb hX hbl hbA hw.2 qzt180 dL_law_910 ?_
          obtain ⟨qizh181, hf⟩ := gg_el hf
          obtain ⟨zt182, zh181, qzh181, hf⟩ := gc_el hf
          refine gx_ki (gx_runV (As := [.int zt179, .int zt180]) (rest := []) X hw (c_X11_page l E N zv1 zt179 zt180 zh qzh181) kX11_page mm_L_99 qizh181 clX11 ⟨by dsimp only [room_1, rm_X11_page]; omega, by dsimp only [room_1, rm_X11_page]; omega⟩ rfl rfl rfl hl.1 (Nat.le_of_ble_eq_true rfl) rfl dL_law_911 ⟨by dsimp only [room_1]; omega, by dsimp only [room_1]; omega⟩) hw (fun H locs hw => ?_)
          refine lv_aload_n hx hb dL_law_914 rfl (lv_at hl 2 rfl) ?_
          refine lv_aload_n hx hb dL_law_915 rfl (lv_at hl 0 rfl) ?_
          refine lv_iload hx hb dL_law_916 (lv_at hl 4 rfl) ?_
          refine lv_iconst (v := 1) hx hb dL_law_918 (by decide) ?_
          refine lv_iadd hx hb dL_law_919 ?_
          refine W.eq (g2 := F0 m 920 ls [.int (zv4 + 1), .ref zb, .ref (gB E + zv2), .int zt182]) rfl ?_
          obtain ⟨zt183, qzt183, hf⟩ := gb_el hf
          refine gx_sld hx hb hX hbl hbA hw.2 qzt183 dL_law_920 ?_
          refine lv_aload_n hx hb dL_law_921 rfl (lv_at hl 0 rfl) ?_
          refine lv_iload hx hb dL_law_922 (lv_at hl 4 rfl) ?_
          refine lv_iconst (v := 2) hx hb dL_law_924 (by decide) ?_
          refine lv_iadd hx hb dL_law_925 ?_
          obtain ⟨zt184, qzt184, hf⟩ := gb_el hf
          refine gx_sld hx hb hX hbl hbA hw.2 qzt184 dL_law_926 ?_
          obtain ⟨qizh185, hf⟩ := gg_el hf
          obtain ⟨zt186, zh185, qzh185, hf⟩ := gc_el hf
          refine gx_ki (gx_runV (As := [.int zt183, .int zt184]) (rest := [.int zt182]) X hw (c_X12_page l E N zv2 zt183 zt184 zh181 qzh185) kX12_page mm_L_102 qizh185 clX12 ⟨by dsimp only [room_1, rm_X12_page]; omega, by dsimp only [room_1, rm_X12_page]; omega⟩ rfl rfl rfl hl.1 (Nat.le_of_ble_eq_true rfl) rfl dL_law_927 ⟨by dsimp only [room_1]; omega, by dsimp only [room_1]; omega⟩) hw (fun H locs hw => ?_)
          refine lv_icmp_eq (tgt := 1264) hx hb dL_law_930 (by decide) (fun qc187 => ?_) (fun qc187 => ?_)
          · have hf := gif_t hf qc187
            refine W.widen (k := 111 + 52 * (513 - (zn23 + 1)) + 52) (n := 24833 + 1512 * (513 - (zn23 + 1)) + 1512) (by omega) (by omega) ?_
            exact J_1264 zv0 zv1 zv2 zv3 zv4 _ _ _ ls hf hw (lv_sub hl [0, 1, 2, 3, 4] rfl)
          · have hf := gif_f hf qc187
            refine lv_iconst (v := 0) hx hb dL_law_933 (by decide) ?_
            exact absurd (Prod.mk.inj (Option.some.inj hf)).1 (by decide)
        have hf := gif_f hf qc178
        by_cases qc188 : ((zt2 &&& 31) : Int32) = 18
        · have hf := gif_t hf qc188
          refine lv_tableIn (off := 895) (tgt := 935) hx hb dL_law_40 (by rw [qc188]; decide) (by rw [qc188]; decide) (by rw [qc188]; rfl) (by decide) ?_
          refine lv_aload_n hx hb dL_law_935 rfl (lv_at hl 1 rfl) ?_
          obtain ⟨qizh189, hf⟩ := gg_el hf
          obtain ⟨zt190, zh189, qzh189, hf⟩ := gc_el hf
          refine gx_kl (gx_runV (As := []) (rest := []) X hw (c_X11_ways l E N zv1 zh qzh189) kX11_ways mm_L_103 qizh189 clX11 ⟨by dsimp only [room_1, rm_X11_ways]; omega, by dsimp only [room_1, rm_X11_ways]; omega⟩ rfl rfl rfl hl.1 (Nat.le_of_ble_eq_true rfl) rfl dL_law_936 ⟨by dsimp only [room_1]; omega, by dsimp only [room_1]; omega⟩) hw (fun H locs hw => ?_)
          refine lv_aload_n hx hb dL_law_939 rfl (lv_at hl 2 rfl) ?_
          obtain ⟨qizh191, hf⟩ := gg_el hf
          obtain ⟨zt192, zh191, qzh191, hf⟩ := gc_el hf
          refine gx_kl (gx_runV (As := []) (rest := [.long zt190]) X hw (c_X12_ways l E N zv2 zh189 qzh191) kX12_ways mm_L_107 qizh191 clX12 ⟨by dsimp only [room_1, rm_X12_ways]; omega, by dsimp only [room_1, rm_X12_ways]; omega⟩ rfl rfl rfl hl.1 (Nat.le_of_ble_eq_true rfl) rfl dL_law_940 ⟨by dsimp only [room_1]; omega, by dsimp only [room_1]; omega⟩) hw (fun H locs hw => ?_)
          refine W.lcmp hx hb dL_law_943 ?_
          refine lv_if_eq (tgt := 1264) hx hb dL_law_944 (by decide) (fun qc193 => ?_) (fun qc193 => ?_)
          · have hf := gif_t hf qc193
            refine W.widen (k := 111 + 52 * (513 - (zn23 + 1)) + 52) (n := 24833 + 1512 * (513 - (zn23 + 1)) + 1512) (by omega) (by omega) ?_
            exact J_1264 zv0 zv1 zv2 zv3 zv4 _ _ _ ls hf hw (lv_sub hl [0, 1, 2, 3, 4] rfl)
          · have hf := gif_f hf qc193
            refine lv_iconst (v := 0) hx hb dL_law_947 (by decide) ?_
            refine W.eq (g2 := F0 m 948 ls [.int 0]) rfl ?_
            exact absurd (Prod.mk.inj (Option.some.inj hf)).1 (by decide)
        have hf := gif_f hf qc188
        by_cases qc194 : ((zt2 &&& 31) : Int32) = 19
        · have hf := gif_t hf qc194
          refine lv_tableIn (off := 909) (tgt := 949) hx hb dL_law_40 (by rw [qc194]; decide) (by rw [qc194]; decide) (by rw [qc194]; rfl) (by decide) ?_
          refine lv_aload_n hx hb dL_law_949 rfl (lv_at hl 1 rfl) ?_
          refine lv_aload_n hx hb dL_law_950 rfl (lv_at hl 0 rfl) ?_
          refine lv_iload hx hb dL_law_951 (lv_at hl 4 rfl) ?_
          refine lv_iconst (v := 1) hx hb dL_law_953 (by decide) ?_
          refine lv_iadd hx hb dL_law_954 ?_
          obtain ⟨zt195, qzt195, hf⟩ := gb_el hf
          refine gx_sld hx hb hX hbl hbA hw.2 qzt195 dL_law_955 ?_
          obtain ⟨qizh196, hf⟩ := gg_el hf
          obtain ⟨zt197, zh196, qzh196, hf⟩ := gc_el hf
          refine gx_ki (gx_runV (As := [.int zt195]) (rest := []) X hw (c_X11_sure l E N zv1 zt195 zh qzh196) kX11_sure mm_L_108 qizh196 clX11 ⟨by dsimp only [room_1, rm_X11_sure]; omega, by dsimp only [room_1, rm_X11_sure]; omega⟩ rfl rfl rfl hl.1 (Nat.le_of_ble_eq_true rfl) rfl dL_law_956 ⟨by dsimp only [room_1]; omega, by dsimp only [room_1]; omega⟩) hw (fun H locs hw => ?_)
          refine W.eq (g2 := F0 m 959 ls [.int zt197]) rfl ?_
          refine lv_aload_n hx hb dL_law_959 rfl (lv_at hl 2 rfl) ?_
          refine lv_aload_n hx hb dL_law_960 rfl (lv_at hl 0 rfl) ?_
          refine lv_iload hx hb dL_law_961 (lv_at hl 4 rfl) ?_
          refine lv_iconst (v := 1) hx hb dL_law_963 (by decide) ?_
          refine lv_iadd hx hb dL_law_964 ?_
          obtain ⟨zt198, qzt198, hf⟩ := gb_el hf
          refine gx_sld hx hb hX hbl hbA hw.2 qzt198 dL_law_965 ?_
          obtain ⟨qizh199, hf⟩ := gg_el hf
          obtain ⟨zt200, zh199, qzh199, hf⟩ := gc_el hf
          refine gx_ki (gx_runV (As := [.int zt198]) (rest := [.int zt197]) X hw (c_X12_sure l E N zv2 zt198 zh196 qzh199) kX12_sure mm_L_111 qizh199 clX12 ⟨by dsimp only [room_1, rm_X12_sure]; omega, by dsimp only [room_1, rm_X12_sure]; omega⟩ rfl rfl rfl hl.1 (Nat.le_of_ble_eq_true rfl) rfl dL_law_966 ⟨by dsimp only [room_1]; omega, by dsimp only [room_1]; omega⟩) hw (fun H locs hw => ?_)
          refine lv_icmp_eq (tgt := 1264) hx hb dL_law_969 (by decide) (fun qc201 => ?_) (fun qc201 => ?_)
          · have hf := gif_t hf qc201
            refine W.widen (k := 111 + 52 * (513 - (zn23 + 1)) + 52) (n := 24833 + 1512 * (513 - (zn23 + 1)) + 1512) (by omega) (by omega) ?_
            exact J_1264 zv0 zv1 zv2 zv3 zv4 _ _ _ ls hf hw (lv_sub hl [0, 1, 2, 3, 4] rfl)
          · have hf := gif_f hf qc201
            refine lv_iconst (v := 0) hx hb dL_law_972 (by decide) ?_
            exact absurd (Prod.mk.inj (Option.some.inj hf)).1 (by decide)
        have hf := gif_f hf qc194
        by_cases qc202 : ((zt2 &&& 31) : Int32) = 20
        · have hf := gif_t hf qc202
          refine lv_tableIn (off := 934) (tgt := 974) hx hb dL_law_40 (by rw [qc202]; decide) (by rw [qc202]; decide) (by rw [qc202]; rfl) (by decide) ?_
          refine lv_aload_n hx hb dL_law_974 rfl (lv_at hl 1 rfl) ?_
          refine lv_aload_n hx hb dL_law_975 rfl (lv_at hl 0 rfl) ?_
          refine lv_iload hx hb dL_law_976 (lv_at hl 4 rfl) ?_
          refine lv_iconst (v := 1) hx hb dL_law_978 (by decide) ?_
          refine lv_iadd hx hb dL_law_979 ?_
          obtain ⟨zt203, qzt203, hf⟩ := gb_el hf
          refine gx_sld hx hb hX hbl hbA hw.2 qzt203 dL_law_980 ?_
          refine lv_aload_n hx hb dL_law_981 rfl (lv_at hl 0 rfl) ?_
          refine W.eq (g2 := F0 m 982 ls [.ref zb, .int zt203, .ref (gB E + zv1)]) rfl ?_
          refine lv_iload hx hb dL_law_982 (lv_at hl 4 rfl) ?_
          refine lv_iconst (v := 2) hx hb dL_law_984 (by decide) ?_
          refine lv_iadd hx hb dL_law_985 ?_
          obtain ⟨zt204, qzt204, hf⟩ := gb_el hf
          refine gx_sld hx hb hX hbl hbA hw.2 qzt204 dL_law_986 ?_
          refine lv_aload_n hx hb dL_law_987 rfl (lv_at hl 0 rfl) ?_
          refine lv_iload hx hb dL_law_988 (lv_at hl 4 rfl) ?_
          refine lv_iconst (v := 3) hx hb dL_law_990 (by decide) ?_
          refine lv_iadd hx hb dL_law_991 ?_
          obtain ⟨zt205, qzt205, hf⟩ := gb_el hf
          refine gx_sld hx hb hX hbl hbA hw.2 qzt205 dL_law_992 ?_
          obtain ⟨qizh206, hf⟩ := gg_el hf
          obtain ⟨zt207, zh206, qzh206, hf⟩ := gc_el hf
          refine gx_ki (gx_runV (As := [.int zt203, .int zt204, .int zt205]) (rest := []) X hw (c_X11_job l E N zv1 zt203 zt204 zt205 zh qzh206) kX11_job mm_L_112 qizh206 clX11 ⟨by dsimp only [room_1, rm_X11_job]; omega, by dsimp only [room_1, rm_X11_job]; omega⟩ rfl rfl rfl hl.1 (Nat.le_of_ble_eq_true rfl) rfl dL_law_993 ⟨by dsimp only [room_1]; omega, by dsimp only [room_1]; omega⟩) hw (fun H locs hw => ?_)
          refine W.eq (g2 := F0 m 996 ls [.int zt207]) rfl ?_
          refine lv_aload_n hx hb dL_law_996 rfl (lv_at hl 2 rfl) ?_
          refine lv_aload_n hx hb dL_law_997 rfl (lv_at hl 0 rfl) ?_
          refine lv_iload hx hb dL_law_998 (lv_at hl 4 rfl) ?_
          refine lv_iconst (v := 1) hx hb dL_law_1000 (by decide) ?_
          refine lv_iadd hx hb dL_law_1001 ?_
          obtain ⟨zt208, qzt208, hf⟩ := gb_el hf
          refine gx_sld hx hb hX hbl hbA hw.2 qzt208 dL_law_1002 ?_
          refine lv_aload_n hx hb dL_law_1003 rfl (lv_at hl 0 rfl) ?_
          refine lv_iload hx hb dL_law_1004 (lv_at hl 4 rfl) ?_
          refine lv_iconst (v := 2) hx hb dL_law_1006 (by decide) ?_
          refine lv_iadd hx hb dL_law_1007 ?_
          refine W.eq (g2 := F0 m 1008 ls [.int (zv4 + 2), .ref zb, .int zt208, .ref (gB E + zv2), .int zt207]) rfl ?_
          obtain ⟨zt209, qzt209, hf⟩ := gb_el hf
          refine gx_sld hx hb hX hbl hbA hw.2 qzt209 dL_law_1008 ?_
          refine lv_aload_n hx hb dL_law_1009 rfl (lv_at hl 0 rfl) ?_
          refine lv_iload hx hb dL_law_1010 (lv_at hl 4 rfl) ?_
          refine lv_iconst (v := 3) hx hb dL_law_1012 (by decide) ?_
          refine lv_iadd hx hb dL_law_1013 ?_
          obtain ⟨zt210, qzt210, hf⟩ := gb_el hf
          refine gx_sld hx hb hX hbl hbA hw.2 qzt210 dL_law_1014 ?_
          obtain ⟨qizh211, hf⟩ := gg_el hf
          obtain ⟨zt212, zh211, qzh211, hf⟩ := gc_el hf
          refine gx_ki (gx_runV (As := [.int zt208, .int zt209, .int zt210]) (rest := [.int zt207]) X hw (c_X12_job l E N zv2 zt208 zt209 zt210 zh206 qzh211) kX12_job mm_L_115 qizh211 clX12 ⟨by dsimp only [room_1, rm_X12_job]; omega, by dsimp only [room_1, rm_X12_job]; omega⟩ rfl rfl rfl hl.1 (Nat.le_of_ble_eq_true rfl) rfl dL_law_1015 ⟨by dsimp only [room_1]; omega, by dsimp only [room_1]; omega⟩) hw (fun H locs hw => ?_)
          refine lv_icmp_eq (tgt := 1264) hx hb dL_law_1018 (by decide) (fun qc213 => ?_) (fun qc213 => ?_)
          · have hf := gif_t hf qc213
            refine W.widen (k := 111 + 52 * (513 - (zn23 + 1)) + 52) (n := 24833 + 1512 * (513 - (zn23 + 1)) + 1512) (by omega) (by omega) ?_
            exact J_1264 zv0 zv1 zv2 zv3 zv4 _ _ _ ls hf hw (lv_sub hl [0, 1, 2, 3, 4] rfl)
          · have hf := gif_f hf qc213
            refine lv_iconst (v := 0) hx hb dL_law_1021 (by decide) ?_
            exact absurd (Prod.mk.inj (Option.some.inj hf)).1 (by decide)
        have hf := gif_f hf qc202
        by_cases qc214 : ((zt2 &&& 31) : Int32) = 21
        · have hf := gif_t hf qc214
          refine lv_tableIn (off := 983) (tgt := 1023) hx hb dL_law_40 (by rw [qc214]; decide) (by rw [qc214]; decide) (by rw [qc214]; rfl) (by decide) ?_
          refine lv_aload_n hx hb dL_law_1023 rfl (lv_at hl 1 rfl) ?_
          refine lv_aload_n hx hb dL_law_1024 rfl (lv_at hl 0 rfl) ?_
          refine lv_iload hx hb dL_law_1025 (lv_at hl 4 rfl) ?_
          refine lv_iconst (v := 1) hx hb dL_law_1027 (by decide) ?_
          refine lv_iadd hx hb dL_law_1028 ?_
          obtain ⟨zt215, qzt215, hf⟩ := gb_el hf
          refine gx_sld hx hb hX hbl hbA hw.2 qzt215 dL_law_1029 ?_
          obtain ⟨qizh216, hf⟩ := gg_el hf
          obtain ⟨zt217, zh216, qzh216, hf⟩ := gc_el hf
          refine gx_ki (gx_runV (As := [.int zt215]) (rest := []) X hw (c_X11_porters l E N zv1 zt215 zh qzh216) kX11_porters mm_L_116 qizh216 clX11 ⟨by dsimp only [room_1, rm_X11_porters]; omega, by dsimp only [room_1, rm_X11_porters]; omega⟩ rfl rfl rfl hl.1 (Nat.le_of_ble_eq_true rfl) rfl dL_law_1030 ⟨by dsimp only [room_1]; omega, by dsimp only [room_1]; omega⟩) hw (fun H locs hw => ?_)
          refine W.eq (g2 := F0 m 1033 ls [.int zt217]) rfl ?_
          refine lv_aload_n hx hb dL_law_1033 rfl (lv_at hl 2 rfl) ?_
          refine lv_aload_n hx hb dL_law_1034 rfl (lv_at hl 0 rfl) ?_
          refine lv_iload hx hb dL_law_1035 (lv_at hl 4 rfl) ?_
          refine lv_iconst (v := 1) hx hb dL_law_1037 (by decide) ?_
          refine lv_iadd hx hb dL_law_1038 ?_
          obtain ⟨zt218, qzt218, hf⟩ := gb_el hf
          refine gx_sld hx hb hX hbl hbA hw.2 qzt218 dL_law_1039 ?_
          obtain ⟨qizh219, hf⟩ := gg_el hf
          obtain ⟨zt220, zh219, qzh219, hf⟩ := gc_el hf
          refine gx_ki (gx_runV (As := [.int zt218]) (rest := [.int zt217]) X hw (c_X12_porters l E N zv2 zt218 zh216 qzh219) kX12_porters mm_L_119 qizh219 clX12 ⟨by dsimp only [room_1, rm_X12_porters]; omega, by dsimp only [room_1, rm_X12_porters]; omega⟩ rfl rfl rfl hl.1 (Nat.le_of_ble_eq_true rfl) rfl dL_law_1040 ⟨by dsimp only [room_1]; omega, by dsimp only [room_1]; omega⟩) hw (fun H locs hw => ?_)
          refine lv_icmp_eq (tgt := 1264) hx hb dL_law_1043 (by decide) (fun qc221 => ?_) (fun qc221 => ?_)
          · have hf := gif_t hf qc221
            refine W.widen (k := 111 + 52 * (513 - (zn23 + 1)) + 52) (n := 24833 + 1512 * (513 - (zn23 + 1)) + 1512) (by omega) (by omega) ?_
            exact J_1264 zv0 zv1 zv2 zv3 zv4 _ _ _ ls hf hw (lv_sub hl [0, 1, 2, 3, 4] rfl)
          · have hf := gif_f hf qc221
            refine lv_iconst (v := 0) hx hb dL_law_1046 (by decide) ?_
            exact absurd (Prod.mk.inj (Option.some.inj hf)).1 (by decide)
        have hf := gif_f hf qc214
        by_cases qc222 : ((zt2 &&& 31) : Int32) = 22
        · have hf := gif_t hf qc222
          refine lv_tableIn (off := 1008) (tgt := 1048) hx hb dL_law_40 (by rw [qc222]; decide) (by rw [qc222]; decide) (by rw [qc222]; rfl) (by decide) ?_
          refine lv_aload_n hx hb dL_law_1048 rfl (lv_at hl 1 rfl) ?_
          obtain ⟨qizh223, hf⟩ := gg_el hf
          obtain ⟨zt224, zh223, qzh223, hf⟩ := gc_el hf
          refine gx_ki (gx_runV (As := []) (rest := []) X hw (c_X11_told l E N zv1 zh qzh223) kX11_told mm_L_120 qizh223 clX11 ⟨by dsimp only [room_1, rm_X11_told]; omega, by dsimp only [room_1, rm_X11_told]; omega⟩ rfl rfl rfl hl.1 (Nat.le_of_ble_eq_true rfl) rfl dL_law_1049 ⟨by dsimp only [room_1]; omega, by dsimp only [room_1]; omega⟩) hw (fun H locs hw => ?_)
          refine lv_aload_n hx hb dL_law_1052 rfl (lv_at hl 2 rfl) ?_
          obtain ⟨qizh225, hf⟩ := gg_el hf
          obtain ⟨zt226, zh225, qzh225, hf⟩ := gc_el hf
          refine gx_ki (gx_runV (As := []) (rest := [.int zt224]) X hw (c_X12_told l E N zv2 zh223 qzh225) kX12_told mm_L_123 qizh225 clX12 ⟨by dsimp only [room_1, rm_X12_told]; omega, by dsimp only [room_1, rm_X12_told]; omega⟩ rfl rfl rfl hl.1 (Nat.le_of_ble_eq_true rfl) rfl dL_law_1053 ⟨by dsimp only [room_1]; omega, by dsimp only [room_1]; omega⟩) hw (fun H locs hw => ?_)
          refine lv_icmp_eq (tgt := 1264) hx hb dL_law_1056 (by decide) (fun qc227 => ?_) (fun qc227 => ?_)
          · have hf := gif_t hf qc227
            refine W.widen (k := 111 + 52 * (513 - (zn23 + 1)) + 52) (n := 24833 + 1512 * (513 - (zn23 + 1)) + 1512) (by omega) (by omega) ?_
            exact J_1264 zv0 zv1 zv2 zv3 zv4 _ _ _ ls hf hw (lv_sub hl [0, 1, 2, 3, 4] rfl)
          · have hf := gif_f hf qc227
            refine lv_iconst (v := 0) hx hb dL_law_1059 (by decide) ?_
            exact absurd (Prod.mk.inj (Option.some.inj hf)).1 (by decide)
        have hf := gif_f hf qc222
        by_cases qc228 : ((zt2 &&& 31) : Int32) = 23
        · have hf := gif_t hf qc228
          refine lv_tableIn (off := 1021) (tgt := 1061) hx hb dL_law_40 (by rw [qc228]; decide) (by rw [qc228]; decide) (by rw [qc228]; rfl) (by decide) ?_
          refine lv_aload_n hx hb dL_law_1061 rfl (lv_at hl 1 rfl) ?_
          obtain ⟨qizh229, hf⟩ := gg_el hf
          obtain ⟨zt230, zh229, qzh229, hf⟩ := gc_el hf
          refine gx_ki (gx_runV (As := []) (rest := []) X hw (c_X11_clear l E N zv1 zh qzh229) kX11_clear mm_L_124 qizh229 clX11 ⟨by dsimp only [room_1, rm_X11_clear]; omega, by dsimp only [room_1, rm_X11_clear]; omega⟩ rfl rfl rfl hl.1 (Nat.le_of_ble_eq_true rfl) rfl dL_law_1062 ⟨by dsimp only [room_1]; omega, by dsimp only [room_1]; omega⟩) hw (fun H locs hw => ?_)
          refine lv_aload_n hx hb dL_law_1065 rfl (lv_at hl 2 rfl) ?_
          obtain ⟨qizh231, hf⟩ := gg_el hf
          obtain ⟨zt232, zh231, qzh231, hf⟩ := gc_el hf
          refine gx_ki (gx_runV (As := []) (rest := [.int zt230]) X hw (c_X12_clear l E N zv2 zh229 qzh231) kX12_clear mm_L_128 qizh231 clX12 ⟨by dsimp only [room_1, rm_X12_clear]; omega, by dsimp only [room_1, rm_X12_clear]; omega⟩ rfl rfl rfl hl.1 (Nat.le_of_ble_eq_true rfl) rfl dL_law_1066 ⟨by dsimp only [room_1]; omega, by dsimp only [room_1]; omega⟩) hw (fun H locs hw => ?_)
          refine lv_icmp_eq (tgt := 1264) hx hb dL_law_1069 (by decide) (fun qc233 => ?_) (fun qc233 => ?_)
          · have hf := gif_t hf qc233
            refine W.widen (k := 111 + 52 * (513 - (zn23 + 1)) + 52) (n := 24833 + 1512 * (513 - (zn23 + 1)) + 1512) (by omega) (by omega) ?_
            exact J_1264 zv0 zv1 zv2 zv3 zv4 _ _ _ ls hf hw (lv_sub hl [0, 1, 2, 3, 4] rfl)
          · have hf := gif_f hf qc233
            refine lv_iconst (v := 0) hx hb dL_law_1072 (by decide) ?_
            exact absurd (Prod.mk.inj (Option.some.inj hf)).1 (by decide)
        have hf := gif_f hf qc228
        by_cases qc234 : ((zt2 &&& 31) : Int32) = 24
        · have hf := gif_t hf qc234
          refine lv_tableIn (off := 1034) (tgt := 1074) hx hb dL_law_40 (by rw [qc234]; decide) (by rw [qc234]; decide) (by rw [qc234]; rfl) (by decide) ?_
          refine lv_aload_n hx hb dL_law_1074 rfl (lv_at hl 1 rfl) ?_
          refine lv_aload_n hx hb dL_law_1075 rfl (lv_at hl 0 rfl) ?_
          refine lv_iload hx hb dL_law_1076 (lv_at hl 4 rfl) ?_
          refine lv_iconst (v := 1) hx hb dL_law_1078 (by decide) ?_
          refine lv_iadd hx hb dL_law_1079 ?_
          obtain ⟨zt235, qzt235, hf⟩ := gb_el hf
          refine gx_sld hx hb hX hbl hbA hw.2 qzt235 dL_law_1080 ?_
          obtain ⟨qizh236, hf⟩ := gg_el hf
          obtain ⟨zt237, zh236, qzh236, hf⟩ := gc_el hf
          refine gx_ki (gx_runV (As := [.int zt235]) (rest := []) X hw (c_X11_book l E N zv1 zt235 zh qzh236) kX11_book mm_L_129 qizh236 clX11 ⟨by dsimp only [room_1, rm_X11_book]; omega, by dsimp only [room_1, rm_X11_book]; omega⟩ rfl rfl rfl hl.1 (Nat.le_of_ble_eq_true rfl) rfl dL_law_1081 ⟨by dsimp only [room_1]; omega, by dsimp only [room_1]; omega⟩) hw (fun H locs hw => ?_)
          refine W.eq (g2 := F0 m 1084 ls [.int zt237]) rfl ?_
          refine lv_aload_n hx hb dL_law_1084 rfl (lv_at hl 2 rfl) ?_
          refine lv_aload_n hx hb dL_law_1085 rfl (lv_at hl 0 rfl) ?_
          refine lv_iload hx hb dL_law_1086 (lv_at hl 4 rfl) ?_
          refine lv_iconst (v := 1) hx hb dL_law_1088 (by decide) ?_
          refine lv_iadd hx hb dL_law_1089 ?_
          obtain ⟨zt238, qzt238, hf⟩ := gb_el hf
          refine gx_sld hx hb hX hbl hbA hw.2 qzt238 dL_law_1090 ?_
          obtain ⟨qizh239, hf⟩ := gg_el hf
          obtain ⟨zt240, zh239, qzh239, hf⟩ := gc_el hf
          refine gx_ki (gx_runV (As := [.int zt238]) (rest := [.int zt237]) X hw (c_X12_book l E N zv2 zt238 zh236 qzh239) kX12_book mm_L_132 qizh239 clX12 ⟨by dsimp only [room_1, rm_X12_book]; omega, by dsimp only [room_1, rm_X12_book]; omega⟩ rfl rfl rfl hl.1 (Nat.le_of_ble_eq_true rfl) rfl dL_law_1091 ⟨by dsimp only [room_1]; omega, by dsimp only [room_1]; omega⟩) hw (fun H locs hw => ?_)
          refine lv_icmp_eq (tgt := 1264) hx hb dL_law_1094 (by decide) (fun qc241 => ?_) (fun qc241 => ?_)
          · have hf := gif_t hf qc241
            refine W.widen (k := 111 + 52 * (513 - (zn23 + 1)) + 52) (n := 24833 + 1512 * (513 - (zn23 + 1)) + 1512) (by omega) (by omega) ?_
            exact J_1264 zv0 zv1 zv2 zv3 zv4 _ _ _ ls hf hw (lv_sub hl [0, 1, 2, 3, 4] rfl)
          · have hf := gif_f hf qc241
            refine lv_iconst (v := 0) hx hb dL_law_1097 (by decide) ?_
            exact absurd (Prod.mk.inj (Option.some.inj hf)).1 (by decide)
        have hf := gif_f hf qc234
        by_cases qc242 : ((zt2 &&& 31) : Int32) = 25
        · have hf := gif_t hf qc242
          refine lv_tableIn (off := 1059) (tgt := 1099) hx hb dL_law_40 (by rw [qc242]; decide) (by rw [qc242]; decide) (by rw [qc242]; rfl) (by decide) ?_
          refine lv_aload_n hx hb dL_law_1099 rfl (lv_at hl 1 rfl) ?_
          refine lv_aload_n hx hb dL_law_1100 rfl (lv_at hl 0 rfl) ?_
          refine lv_iload hx hb dL_law_1101 (lv_at hl 4 rfl) ?_
          refine lv_iconst (v := 1) hx hb dL_law_1103 (by decide) ?_
          refine lv_iadd hx hb dL_law_1104 ?_
          obtain ⟨zt243, qzt243, hf⟩ := gb_el hf
          refine gx_sld hx hb hX hbl hbA hw.2 qzt243 dL_law_1105 ?_
          refine lv_aload_n hx hb dL_law_1106 rfl (lv_at hl 0 rfl) ?_
          refine W.eq (g2 := F0 m 1107 ls [.ref zb, .int zt243, .ref (gB E + zv1)]) rfl ?_
          refine lv_iload hx hb dL_law_1107 (lv_at hl 4 rfl) ?_
          refine lv_iconst (v := 2) hx hb dL_law_1109 (by decide) ?_
          refine lv_iadd hx hb dL_law_1110 ?_
          obtain ⟨zt244, qzt244, hf⟩ := gb_el hf
          refine gx_sld hx hb hX hbl hbA hw.2 qzt244 dL_law_1111 ?_
          obtain ⟨qizh245, hf⟩ := gg_el hf
          obtain ⟨zt246, zh245, qzh245, hf⟩ := gc_el hf
          refine gx_ki (gx_runV (As := [.int zt243, .int zt244]) (rest := []) X hw (c_X11_order l E N zv1 zt243 zt244 zh qzh245) kX11_order mm_L_133 qizh245 clX11 ⟨by dsimp only [room_1, rm_X11_order]; omega, by dsimp only [room_1, rm_X11_order]; omega⟩ rfl rfl rfl hl.1 (Nat.le_of_ble_eq_true rfl) rfl dL_law_1112 ⟨by dsimp only [room_1]; omega, by dsimp only [room_1]; omega⟩) hw (fun H locs hw => ?_)
          refine lv_aload_n hx hb dL_law_1115 rfl (lv_at hl 2 rfl) ?_
          refine lv_aload_n hx hb dL_law_1116 rfl (lv_at hl 0 rfl) ?_
          refine lv_iload hx hb dL_law_1117 (lv_at hl 4 rfl) ?_
          refine lv_iconst (v := 1) hx hb dL_law_1119 (by decide) ?_
          refine lv_iadd hx hb dL_law_1120 ?_
          refine W.eq (g2 := F0 m 1121 ls [.int (zv4 + 1), .ref zb, .ref (gB E + zv2), .int zt246]) rfl ?_
          obtain ⟨zt247, qzt247, hf⟩ := gb_el hf
          refine gx_sld hx hb hX hbl hbA hw.2 qzt247 dL_law_1121 ?_
          refine lv_aload_n hx hb dL_law_1122 rfl (lv_at hl 0 rfl) ?_
          refine lv_iload hx hb dL_law_1123 (lv_at hl 4 rfl) ?_
          refine lv_iconst (v := 2) hx hb dL_law_1125 (by decide) ?_
          refine lv_iadd hx hb dL_law_1126 ?_
          obtain ⟨zt248, qzt248, hf⟩ := gb_el hf
          refine gx_sld hx hb hX hbl hbA hw.2 qzt248 dL_law_1127 ?_
          obtain ⟨qizh249, hf⟩ := gg_el hf
          obtain ⟨zt250, zh249, qzh249, hf⟩ := gc_el hf
          refine gx_ki (gx_runV (As := [.int zt247, .int zt248]) (rest := [.int zt246]) X hw (c_X12_order l E N zv2 zt247 zt248 zh245 qzh249) kX12_order mm_L_136 qizh249 clX12 ⟨by dsimp only [room_1, rm_X12_order]; omega, by dsimp only [room_1, rm_X12_order]; omega⟩ rfl rfl rfl hl.1 (Nat.le_of_ble_eq_true rfl) rfl dL_law_1128 ⟨by dsimp only [room_1]; omega, by dsimp only [room_1]; omega⟩) hw (fun H locs hw => ?_)
          refine lv_icmp_eq (tgt := 1264) hx hb dL_law_1131 (by decide) (fun qc251 => ?_) (fun qc251 => ?_)
          · have hf := gif_t hf qc251
            refine W.widen (k := 111 + 52 * (513 - (zn23 + 1)) + 52) (n := 24833 + 1512 * (513 - (zn23 + 1)) + 1512) (by omega) (by omega) ?_
            exact J_1264 zv0 zv1 zv2 zv3 zv4 _ _ _ ls hf hw (lv_sub hl [0, 1, 2, 3, 4] rfl)
          · have hf := gif_f hf qc251
            refine lv_iconst (v := 0) hx hb dL_law_1134 (by decide) ?_
            exact absurd (Prod.mk.inj (Option.some.inj hf)).1 (by decide)
        have hf := gif_f hf qc242
        by_cases qc252 : ((zt2 &&& 31) : Int32) = 26
        · have hf := gif_t hf qc252
          refine lv_tableIn (off := 1096) (tgt := 1136) hx hb dL_law_40 (by rw [qc252]; decide) (by rw [qc252]; decide) (by rw [qc252]; rfl) (by decide) ?_
          refine lv_aload_n hx hb dL_law_1136 rfl (lv_at hl 1 rfl) ?_
          refine lv_aload_n hx hb dL_law_1137 rfl (lv_at hl 0 rfl) ?_
          refine lv_iload hx hb dL_law_1138 (lv_at hl 4 rfl) ?_
          refine lv_iconst (v := 1) hx hb dL_law_1140 (by decide) ?_
          refine lv_iadd hx hb dL_law_1141 ?_
          obtain ⟨zt253, qzt253, hf⟩ := gb_el hf
          refine gx_sld hx hb hX hbl hbA hw.2 qzt253 dL_law_1142 ?_
          refine lv_aload_n hx hb dL_law_1143 rfl (lv_at hl 0 rfl) ?_
          refine W.eq (g2 := F0 m 1144 ls [.ref zb, .int zt253, .ref (gB E + zv1)]) rfl ?_
          refine lv_iload hx hb dL_law_1144 (lv_at hl 4 rfl) ?_
          refine lv_iconst (v := 2) hx hb dL_law_1146 (by decide) ?_
          refine lv_iadd hx hb dL_law_1147 ?_
          obtain ⟨zt254, qzt254, hf⟩ := gb_el hf
          refine gx_sld hx hb hX hbl hbA hw.2 qzt254 dL_law_1148 ?_
          obtain ⟨qizh255, hf⟩ := gg_el hf
          obtain ⟨zt256, zh255, qzh255, hf⟩ := gc_el hf
          refine gx_ki (gx_runV (As := [.int zt253, .int zt254]) (rest := []) X hw (c_X11_tried l E N zv1 zt253 zt254 zh qzh255) kX11_tried mm_L_137 qizh255 clX11 ⟨by dsimp only [room_1, rm_X11_tried]; omega, by dsimp only [room_1, rm_X11_tried]; omega⟩ rfl rfl rfl hl.1 (Nat.le_of_ble_eq_true rfl) rfl dL_law_1149 ⟨by dsimp only [room_1]; omega, by dsimp only [room_1]; omega⟩) hw (fun H locs hw => ?_)
          refine lv_aload_n hx hb dL_law_1152 rfl (lv_at hl 2 rfl) ?_
          refine lv_aload_n hx hb dL_law_1153 rfl (lv_at hl 0 rfl) ?_
          refine lv_iload hx hb dL_law_1154 (lv_at hl 4 rfl) ?_
          refine lv_iconst (v := 1) hx hb dL_law_1156 (by decide) ?_
          refine lv_iadd hx hb dL_law_1157 ?_
          refine W.eq (g2 := F0 m 1158 ls [.int (zv4 + 1), .ref zb, .ref (gB E + zv2), .int zt256]) rfl ?_
          obtain ⟨zt257, qzt257, hf⟩ := gb_el hf
          refine gx_sld hx hb hX hbl hbA hw.2 qzt257 dL_law_1158 ?_
          refine lv_aload_n hx hb dL_law_1159 rfl (lv_at hl 0 rfl) ?_
          refine lv_iload hx hb dL_law_1160 (lv_at hl 4 rfl) ?_
          refine lv_iconst (v := 2) hx hb dL_law_1162 (by decide) ?_
          refine lv_iadd hx hb dL_law_1163 ?_
          obtain ⟨zt258, qzt258, hf⟩ := gb_el hf
          refine gx_sld hx hb hX hbl hbA hw.2 qzt258 dL_law_1164 ?_
          obtain ⟨qizh259, hf⟩ := gg_el hf
          obtain ⟨zt260, zh259, qzh259, hf⟩ := gc_el hf
          refine gx_ki (gx_runV (As := [.int zt257, .int zt258]) (rest := [.int zt256]) X hw (c_X12_tried l E N zv2 zt257 zt258 zh255 qzh259) kX12_tried mm_L_140 qizh259 clX12 ⟨by dsimp only [room_1, rm_X12_tried]; omega, by dsimp only [room_1, rm_X12_tried]; omega⟩ rfl rfl rfl hl.1 (Nat.le_of_ble_eq_true rfl) rfl dL_law_1165 ⟨by dsimp only [room_1]; omega, by dsimp only [room_1]; omega⟩) hw (fun H locs hw => ?_)
          refine lv_icmp_eq (tgt := 1264) hx hb dL_law_1168 (by decide) (fun qc261 => ?_) (fun qc261 => ?_)
          · have hf := gif_t hf qc261
            refine W.widen (k := 111 + 52 * (513 - (zn23 + 1)) + 52) (n := 24833 + 1512 * (513 - (zn23 + 1)) + 1512) (by omega) (by omega) ?_
            exact J_1264 zv0 zv1 zv2 zv3 zv4 _ _ _ ls hf hw (lv_sub hl [0, 1, 2, 3, 4] rfl)
          · have hf := gif_f hf qc261
            refine lv_iconst (v := 0) hx hb dL_law_1171 (by decide) ?_
            exact absurd (Prod.mk.inj (Option.some.inj hf)).1 (by decide)
        have hf := gif_f hf qc252
        by_cases qc262 : ((zt2 &&& 31) : Int32) = 27
        · have hf := gif_t hf qc262
          refine lv_tableIn (off := 1133) (tgt := 1173) hx hb dL_law_40 (by rw [qc262]; decide) (by rw [qc262]; decide) (by rw [qc262]; rfl) (by decide) ?_
          refine lv_aload_n hx hb dL_law_1173 rfl (lv_at hl 1 rfl) ?_
          obtain ⟨qizh263, hf⟩ := gg_el hf
          obtain ⟨zt264, zh263, qzh263, hf⟩ := gc_el hf
          refine gx_ki (gx_runV (As := []) (rest := []) X hw (c_X11_best l E N zv1 zh qzh263) kX11_best mm_L_141 qizh263 clX11 ⟨by dsimp only [room_1, rm_X11_best]; omega, by dsimp only [room_1, rm_X11_best]; omega⟩ rfl rfl rfl hl.1 (Nat.le_of_ble_eq_true rfl) rfl dL_law_1174 ⟨by dsimp only [room_1]; omega, by dsimp only [room_1]; omega⟩) hw (fun H locs hw => ?_)
          refine lv_aload_n hx hb dL_law_1177 rfl (lv_at hl 2 rfl) ?_
          obtain ⟨qizh265, hf⟩ := gg_el hf
          obtain ⟨zt266, zh265, qzh265, hf⟩ := gc_el hf
          refine gx_ki (gx_runV (As := []) (rest := [.int zt264]) X hw (c_X12_best l E N zv2 zh263 qzh265) kX12_best mm_L_144 qizh265 clX12 ⟨by dsimp only [room_1, rm_X12_best]; omega, by dsimp only [room_1, rm_X12_best]; omega⟩ rfl rfl rfl hl.1 (Nat.le_of_ble_eq_true rfl) rfl dL_law_1178 ⟨by dsimp only [room_1]; omega, by dsimp only [room_1]; omega⟩) hw (fun H locs hw => ?_)
          refine lv_icmp_eq (tgt := 1264) hx hb dL_law_1181 (by decide) (fun qc267 => ?_) (fun qc267 => ?_)
          · have hf := gif_t hf qc267
            refine W.widen (k := 111 + 52 * (513 - (zn23 + 1)) + 52) (n := 24833 + 1512 * (513 - (zn23 + 1)) + 1512) (by omega) (by omega) ?_
            exact J_1264 zv0 zv1 zv2 zv3 zv4 _ _ _ ls hf hw (lv_sub hl [0, 1, 2, 3, 4] rfl)
          · have hf := gif_f hf qc267
            refine lv_iconst (v := 0) hx hb dL_law_1184 (by decide) ?_
            exact absurd (Prod.mk.inj (Option.some.inj hf)).1 (by decide)
        have hf := gif_f hf qc262
        by_cases qc268 : ((zt2 &&& 31) : Int32) = 28
        · have hf := gif_t hf qc268
          refine lv_tableIn (off := 1146) (tgt := 1186) hx hb dL_law_40 (by rw [qc268]; decide) (by rw [qc268]; decide) (by rw [qc268]; rfl) (by decide) ?_
          refine lv_aload_n hx hb dL_law_1186 rfl (lv_at hl 1 rfl) ?_
          refine lv_aload_n hx hb dL_law_1187 rfl (lv_at hl 0 rfl) ?_
          refine lv_iload hx hb dL_law_1188 (lv_at hl 4 rfl) ?_
          refine lv_iconst (v := 1) hx hb dL_law_1190 (by decide) ?_
          refine lv_iadd hx hb dL_law_1191 ?_
          obtain ⟨zt269, qzt269, hf⟩ := gb_el hf
          refine gx_sld hx hb hX hbl hbA hw.2 qzt269 dL_law_1192 ?_
          refine lv_aload_n hx hb dL_law_1193 rfl (lv_at hl 0 rfl) ?_
          refine W.eq (g2 := F0 m 1194 ls [.ref zb, .int zt269, .ref (gB E + zv1)]) rfl ?_
          refine lv_iload hx hb dL_law_1194 (lv_at hl 4 rfl) ?_
          refine lv_iconst (v := 2) hx hb dL_law_1196 (by decide) ?_
          refine lv_iadd hx hb dL_law_1197 ?_
          obtain ⟨zt270, qzt270, hf⟩ := gb_el hf
          refine gx_sld hx hb hX hbl hbA hw.2 qzt270 dL_law_1198 ?_
          refine lv_if_eq (tgt := 1206) hx hb dL_law_1199 (by decide) (fun qc271 => ?_) (fun qc271 => ?_)
          · have hf := gif_t hf qc271
            refine lv_iconst (v := 0) hx hb dL_law_1206 (by decide) ?_
            refine W.widen (k := 111 + 52 * (513 - (zn23 + 1)) + 0) (n := 24833 + 1512 * (513 - (zn23 + 1)) + 0) (by omega) (by omega) ?_
            exact J_1207 zv0 zv1 zv2 zv3 zv4 0 zt269 zv1 _ _ _ ls hf hw (lv_sub hl [0, 1, 2, 3, 4] rfl)
          · have hf := gif_f hf qc271
            refine lv_iconst (v := 1) hx hb dL_law_1202 (by decide) ?_
            refine lv_goto (tgt := 1207) hx hb dL_law_1203 (by decide) ?_
            refine W.widen (k := 111 + 52 * (513 - (zn23 + 1)) + 0) (n := 24833 + 1512 * (513 - (zn23 + 1)) + 0) (by omega) (by omega) ?_
            exact J_1207 zv0 zv1 zv2 zv3 zv4 1 zt269 zv1 _ _ _ ls hf hw (lv_sub hl [0, 1, 2, 3, 4] rfl)
        have hf := gif_f hf qc268
        by_cases qc272 : ((zt2 &&& 31) : Int32) = 29
        · have hf := gif_t hf qc272
          refine lv_tableIn (off := 1199) (tgt := 1239) hx hb dL_law_40 (by rw [qc272]; decide) (by rw [qc272]; decide) (by rw [qc272]; rfl) (by decide) ?_
          refine lv_aload_n hx hb dL_law_1239 rfl (lv_at hl 1 rfl) ?_
          refine lv_aload_n hx hb dL_law_1240 rfl (lv_at hl 0 rfl) ?_
          refine lv_iload hx hb dL_law_1241 (lv_at hl 4 rfl) ?_
          refine lv_iconst (v := 1) hx hb dL_law_1243 (by decide) ?_
          refine lv_iadd hx hb dL_law_1244 ?_
          obtain ⟨zt273, qzt273, hf⟩ := gb_el hf
          refine gx_sld hx hb hX hbl hbA hw.2 qzt273 dL_law_1245 ?_
          obtain ⟨qizh274, hf⟩ := gg_el hf
          obtain ⟨zt275, zh274, qzh274, hf⟩ := gc_el hf
          refine gx_ki (gx_runV (As := [.int zt273]) (rest := []) X hw (c_X11_count l E N zv1 zt273 zh qzh274) kX11_count mm_L_150 qizh274 clX11 ⟨by dsimp only [room_1, rm_X11_count]; omega, by dsimp only [room_1, rm_X11_count]; omega⟩ rfl rfl rfl hl.1 (Nat.le_of_ble_eq_true rfl) rfl dL_law_1246 ⟨by dsimp only [room_1]; omega, by dsimp only [room_1]; omega⟩) hw (fun H locs hw => ?_)
          refine W.eq (g2 := F0 m 1249 ls [.int zt275]) rfl ?_
          refine lv_aload_n hx hb dL_law_1249 rfl (lv_at hl 2 rfl) ?_
          refine lv_aload_n hx hb dL_law_1250 rfl (lv_at hl 0 rfl) ?_
          refine lv_iload hx hb dL_law_1251 (lv_at hl 4 rfl) ?_
          refine lv_iconst (v := 1) hx hb dL_law_1253 (by decide) ?_
          refine lv_iadd hx hb dL_law_1254 ?_
          obtain ⟨zt276, qzt276, hf⟩ := gb_el hf
          refine gx_sld hx hb hX hbl hbA hw.2 qzt276 dL_law_1255 ?_
          obtain ⟨qizh277, hf⟩ := gg_el hf
          obtain ⟨zt278, zh277, qzh277, hf⟩ := gc_el hf
          refine gx_ki (gx_runV (As := [.int zt276]) (rest := [.int zt275]) X hw (c_X12_count l E N zv2 zt276 zh274 qzh277) kX12_count mm_L_153 qizh277 clX12 ⟨by dsimp only [room_1, rm_X12_count]; omega, by dsimp only [room_1, rm_X12_count]; omega⟩ rfl rfl rfl hl.1 (Nat.le_of_ble_eq_true rfl) rfl dL_law_1256 ⟨by dsimp only [room_1]; omega, by dsimp only [room_1]; omega⟩) hw (fun H locs hw => ?_)
          refine lv_icmp_eq (tgt := 1264) hx hb dL_law_1259 (by decide) (fun qc279 => ?_) (fun qc279 => ?_)
          · have hf := gif_t hf qc279
            refine W.widen (k := 111 + 52 * (513 - (zn23 + 1)) + 52) (n := 24833 + 1512 * (513 - (zn23 + 1)) + 1512) (by omega) (by omega) ?_
            exact J_1264 zv0 zv1 zv2 zv3 zv4 _ _ _ ls hf hw (lv_sub hl [0, 1, 2, 3, 4] rfl)
          · have hf := gif_f hf qc279
            refine lv_iconst (v := 0) hx hb dL_law_1262 (by decide) ?_
            exact absurd (Prod.mk.inj (Option.some.inj hf)).1 (by decide)
        have hf := gif_f hf qc272
        have nqc3 := lv_neT (a := 0) qc3 (by decide)
        have nqc21 := lv_neT (a := 1) qc21 (by decide)
        have nqc27 := lv_neT (a := 2) qc27 (by decide)
        have nqc37 := lv_neT (a := 3) qc37 (by decide)
        have nqc47 := lv_neT (a := 4) qc47 (by decide)
        have nqc55 := lv_neT (a := 5) qc55 (by decide)
        have nqc72 := lv_neT (a := 6) qc72 (by decide)
        have nqc82 := lv_neT (a := 7) qc82 (by decide)
        have nqc92 := lv_neT (a := 8) qc92 (by decide)
        have nqc98 := lv_neT (a := 9) qc98 (by decide)
        have nqc106 := lv_neT (a := 10) qc106 (by decide)
        have nqc116 := lv_neT (a := 11) qc116 (by decide)
        have nqc126 := lv_neT (a := 12) qc126 (by decide)
        have nqc138 := lv_neT (a := 13) qc138 (by decide)
        have nqc150 := lv_neT (a := 14) qc150 (by decide)
        have nqc162 := lv_neT (a := 15) qc162 (by decide)
        have nqc172 := lv_neT (a := 16) qc172 (by decide)
        have nqc178 := lv_neT (a := 17) qc178 (by decide)
        have nqc188 := lv_neT (a := 18) qc188 (by decide)
        have nqc194 := lv_neT (a := 19) qc194 (by decide)
        have nqc202 := lv_neT (a := 20) qc202 (by decide)
        have nqc214 := lv_neT (a := 21) qc214 (by decide)
        have nqc222 := lv_neT (a := 22) qc222 (by decide)
        have nqc228 := lv_neT (a := 23) qc228 (by decide)
        have nqc234 := lv_neT (a := 24) qc234 (by decide)
        have nqc242 := lv_neT (a := 25) qc242 (by decide)
        have nqc252 := lv_neT (a := 26) qc252 (by decide)
        have nqc262 := lv_neT (a := 27) qc262 (by decide)
        have nqc268 := lv_neT (a := 28) qc268 (by decide)
        have nqc272 := lv_neT (a := 29) qc272 (by decide)
        refine lv_tableOut (tgt := 1264) hx hb dL_law_40 (by omega) (by decide) ?_
        refine W.widen (k := 111 + 52 * (513 - (zn23 + 1)) + 52) (n := 24833 + 1512 * (513 - (zn23 + 1)) + 1512) (by omega) (by omega) ?_
        exact J_1264 zv0 zv1 zv2 zv3 zv4 _ _ _ ls hf hw (lv_sub hl [0, 1, 2, 3, 4] rfl)
  unfold f_L_law at hf
  obtain ⟨zr2, zh1, qzh1, hf⟩ := gc_el hf
  refine gx_new X hw qzh1 clX11 n1X11 ml_L_8 mN_X11 mI_X11 (by dsimp only [room_1]; omega) (by dsimp only [room_1]; omega) dL_law_0 (fun H hw => ?_)
  refine lv_dup hx hb dL_law_3 rfl ?_
  obtain ⟨zh3, qzh3, hf⟩ := gb_el hf
  refine gx_kv (gx_runI (As := []) (rest := [.ref (gB E + zr2)]) X hw (c_X11_init l E N zr2 zh1 qzh3) kX11_init mm_L_15 ⟨by dsimp only [room_1, rm_X11_init]; omega, by dsimp only [room_1, rm_X11_init]; omega⟩ rfl rfl rfl hl.1 (Nat.le_of_ble_eq_true rfl) rfl dL_law_4 ⟨by dsimp only [room_1]; omega, by dsimp only [room_1]; omega⟩) hw (fun H locs hw => ?_)
  refine lv_astore_n (lv' := [(1, .ref (gB E + zr2)), (0, .ref zb)]) hx hb dL_law_7 rfl hl (by decide) rfl (fun ls hl => ?_)
  obtain ⟨zr5, zh4, qzh4, hf⟩ := gc_el hf
  refine gx_new X hw qzh4 clX12 n1X12 ml_L_16 mN_X12 mI_X12 (by dsimp only [room_1]; omega) (by dsimp only [room_1]; omega) dL_law_8 (fun H hw => ?_)
  refine lv_dup hx hb dL_law_11 rfl ?_
  obtain ⟨zh6, qzh6, hf⟩ := gb_el hf
  refine gx_kv (gx_runI (As := []) (rest := [.ref (gB E + zr5)]) X hw (c_X12_init l E N zr5 zh4 qzh6) kX12_init mm_L_18 ⟨by dsimp only [room_1, rm_X12_init]; omega, by dsimp only [room_1, rm_X12_init]; omega⟩ rfl rfl rfl hl.1 (Nat.le_of_ble_eq_true rfl) rfl dL_law_12 ⟨by dsimp only [room_1]; omega, by dsimp only [room_1]; omega⟩) hw (fun H locs hw => ?_)
  refine lv_astore_n (lv' := [(2, .ref (gB E + zr5)), (1, .ref (gB E + zr2)), (0, .ref zb)]) hx hb dL_law_15 rfl hl (by decide) rfl (fun ls hl => ?_)
  refine lv_iconst (v := 1) hx hb dL_law_16 (by decide) ?_
  refine W.eq (g2 := F0 m 17 ls [.int 1]) rfl ?_
  obtain ⟨zr8, zh7, qzh7, hf⟩ := gc_el hf
  refine gx_newa1 X hw qzh7 ma_long (by decide) (by decide) (by decide) (by dsimp only [room_1]; omega) (by dsimp only [room_1]; omega) dL_law_17 (fun H hw => ?_)
  refine lv_astore_n (lv' := [(3, .ref (gB E + zr8)), (2, .ref (gB E + zr5)), (1, .ref (gB E + zr2)), (0, .ref zb)]) hx hb dL_law_19 rfl hl (by decide) rfl (fun ls hl => ?_)
  refine lv_iconst (v := 0) hx hb dL_law_20 (by decide) ?_
  refine lv_istore (lv' := [(4, .int 0), (3, .ref (gB E + zr8)), (2, .ref (gB E + zr5)), (1, .ref (gB E + zr2)), (0, .ref zb)]) hx hb dL_law_21 hl (by decide) rfl (fun ls hl => ?_)
  exact L_23 513 0 zr2 zr5 zr8 0 _ _ _ ls (Nat.le_refl _) hf hw (lv_sub hl [4, 3, 2, 1, 0] rfl)
