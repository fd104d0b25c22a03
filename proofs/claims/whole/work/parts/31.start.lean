theorem tb_1 {w : Cond} (i : Nat) (h : tables_1_1[i]? = some w) : w ∈ lw_tbl := by
  have h : w ∈ tables_1_1 := List.mem_of_getElem? h
  exact List.mem_append_right _ (by unfold tables_1; exact List.mem_append_left _ h)
theorem tb_2 {w : Cond} (i : Nat) (h : tables_1_2[i]? = some w) : w ∈ lw_tbl := by
  have h : w ∈ tables_1_2 := List.mem_of_getElem? h
  exact List.mem_append_right _ (by unfold tables_1; exact List.mem_append_right _ (List.mem_append_left _ h))
theorem tb_3 {w : Cond} (i : Nat) (h : tables_1_3[i]? = some w) : w ∈ lw_tbl := by
  have h : w ∈ tables_1_3 := List.mem_of_getElem? h
  exact List.mem_append_right _ (by unfold tables_1; exact List.mem_append_right _ (List.mem_append_right _ (List.mem_append_left _ h)))
theorem tb_4 {w : Cond} (i : Nat) (h : tables_1_4[i]? = some w) : w ∈ lw_tbl := by
  have h : w ∈ tables_1_4 := List.mem_of_getElem? h
  exact List.mem_append_right _ (by unfold tables_1; exact List.mem_append_right _ (List.mem_append_right _ (List.mem_append_right _ (List.mem_append_left _ h))))
theorem tb_5 {w : Cond} (i : Nat) (h : tables_1_5[i]? = some w) : w ∈ lw_tbl := by
  have h : w ∈ tables_1_5 := List.mem_of_getElem? h
  exact List.mem_append_right _ (by unfold tables_1; exact List.mem_append_right _ (List.mem_append_right _ (List.mem_append_right _ (List.mem_append_right _ (List.mem_append_left _ h)))))
theorem tb_6 {w : Cond} (i : Nat) (h : tables_1_6[i]? = some w) : w ∈ lw_tbl := by
  have h : w ∈ tables_1_6 := List.mem_of_getElem? h
  exact List.mem_append_right _ (by unfold tables_1; exact List.mem_append_right _ (List.mem_append_right _ (List.mem_append_right _ (List.mem_append_right _ (List.mem_append_right _ (List.mem_append_left _ h))))))
theorem tb_7 {w : Cond} (i : Nat) (h : tables_1_7[i]? = some w) : w ∈ lw_tbl := by
  have h : w ∈ tables_1_7 := List.mem_of_getElem? h
  exact List.mem_append_right _ (by unfold tables_1; exact List.mem_append_right _ (List.mem_append_right _ (List.mem_append_right _ (List.mem_append_right _ (List.mem_append_right _ (List.mem_append_right _ (List.mem_append_left _ h)))))))
theorem tb_8 {w : Cond} (i : Nat) (h : tables_1_8[i]? = some w) : w ∈ lw_tbl := by
  have h : w ∈ tables_1_8 := List.mem_of_getElem? h
  exact List.mem_append_right _ (by unfold tables_1; exact List.mem_append_right _ (List.mem_append_right _ (List.mem_append_right _ (List.mem_append_right _ (List.mem_append_right _ (List.mem_append_right _ (List.mem_append_right _ (h))))))))
theorem gT_tbl : ∀ w ∈ gT, w ∈ lw_tbl := fun _ h => (List.mem_filter.mp h).1
def gTmL : List Term := [.string "MoveInn$InnReader" 36, .string "MoveInn$InnReader" 46, .string "MoveInn$InnReader" 91, .string "MoveInn$InnReader" 97, .string "MoveInn$InnReader" 99, .string "MoveInn$InnReader" 51, .string "MoveInn$InnReader" 125, .string "MoveInn$InnReader" 134, .string "MoveInn$InnReader" 136, .string "MoveInn$InnReader" 138, .string "MoveInn$InnReader" 140, .string "MoveInn$InnReader" 142, .string "MoveInn$InnReader" 144, .string "MoveInn$InnReader" 146, .string "MoveInn" 151, .string "MoveInn" 156]
def gTm (i : Nat) : Term := gTmL.getD i (.arg 0)
abbrev gFL : List Cond := flatC (Jvm.Cond.and given_1 narrow_1)
theorem st_ex : ∀ i, i < 16 → (Cond.exactly (gTm i) "java/lang/String") ∈ gFL := by decide +kernel
theorem st_co : ∀ i, i < 16 → (Cond.eq (.field (gTm i) "java/lang/String" "coder" "B") (.int 0)) ∈ gFL := by decide +kernel
theorem st_ar : ∀ i, i < 16 → (Cond.arrayOf (.field (gTm i) "java/lang/String" "value" "[B") .byte) ∈ gFL := by decide +kernel
theorem st_le : ∀ i, i < 16 → (Cond.eq (.length (.field (gTm i) "java/lang/String" "value" "[B")) (.int (Int32.ofNat (gLen.getD i 0)))) ∈ gFL := by decide +kernel
theorem st_el : ∀ i, i < 16 → ∀ j, j < gLen.getD i 0 → (Cond.eq (.elem (.field (gTm i) "java/lang/String" "value" "[B") (.int (Int32.ofNat j))) (.int ((gByt.getD i []).getD j 0))) ∈ gFL := by decide +kernel
theorem st_ne_0 : ∀ j, j < 16 → 0 ≠ j → gFL[([0, 71, 81, 91, 101, 113, 125, 138, 151, 167, 183, 203, 223, 244, 288, 337] : List Nat).getD j 0]? = some (Cond.not (Cond.eq (gTm 0) (gTm j))) ∨ gFL[([0, 71, 81, 91, 101, 113, 125, 138, 151, 167, 183, 203, 223, 244, 288, 337] : List Nat).getD j 0]? = some (Cond.not (Cond.eq (gTm j) (gTm 0))) := by decide +kernel
theorem st_ne_1 : ∀ j, j < 16 → 1 ≠ j → gFL[([71, 0, 82, 92, 102, 114, 126, 139, 152, 168, 184, 204, 224, 245, 289, 338] : List Nat).getD j 0]? = some (Cond.not (Cond.eq (gTm 1) (gTm j))) ∨ gFL[([71, 0, 82, 92, 102, 114, 126, 139, 152, 168, 184, 204, 224, 245, 289, 338] : List Nat).getD j 0]? = some (Cond.not (Cond.eq (gTm j) (gTm 1))) := by decide +kernel
theorem st_ne_2 : ∀ j, j < 16 → 2 ≠ j → gFL[([81, 82, 0, 93, 103, 115, 127, 140, 153, 169, 185, 205, 225, 246, 290, 339] : List Nat).getD j 0]? = some (Cond.not (Cond.eq (gTm 2) (gTm j))) ∨ gFL[([81, 82, 0, 93, 103, 115, 127, 140, 153, 169, 185, 205, 225, 246, 290, 339] : List Nat).getD j 0]? = some (Cond.not (Cond.eq (gTm j) (gTm 2))) := by decide +kernel
theorem st_ne_3 : ∀ j, j < 16 → 3 ≠ j → gFL[([91, 92, 93, 0, 104, 116, 128, 141, 154, 170, 186, 206, 226, 247, 291, 340] : List Nat).getD j 0]? = some (Cond.not (Cond.eq (gTm 3) (gTm j))) ∨ gFL[([91, 92, 93, 0, 104, 116, 128, 141, 154, 170, 186, 206, 226, 247, 291, 340] : List Nat).getD j 0]? = some (Cond.not (Cond.eq (gTm j) (gTm 3))) := by decide +kernel
theorem st_ne_4 : ∀ j, j < 16 → 4 ≠ j → gFL[([101, 102, 103, 104, 0, 117, 129, 142, 155, 171, 187, 207, 227, 248, 292, 341] : List Nat).getD j 0]? = some (Cond.not (Cond.eq (gTm 4) (gTm j))) ∨ gFL[([101, 102, 103, 104, 0, 117, 129, 142, 155, 171, 187, 207, 227, 248, 292, 341] : List Nat).getD j 0]? = some (Cond.not (Cond.eq (gTm j) (gTm 4))) := by decide +kernel
theorem st_ne_5 : ∀ j, j < 16 → 5 ≠ j → gFL[([113, 114, 115, 116, 117, 0, 130, 143, 156, 172, 188, 208, 228, 249, 293, 342] : List Nat).getD j 0]? = some (Cond.not (Cond.eq (gTm 5) (gTm j))) ∨ gFL[([113, 114, 115, 116, 117, 0, 130, 143, 156, 172, 188, 208, 228, 249, 293, 342] : List Nat).getD j 0]? = some (Cond.not (Cond.eq (gTm j) (gTm 5))) := by decide +kernel
theorem st_ne_6 : ∀ j, j < 16 → 6 ≠ j → gFL[([125, 126, 127, 128, 129, 130, 0, 144, 157, 173, 189, 209, 229, 250, 294, 343] : List Nat).getD j 0]? = some (Cond.not (Cond.eq (gTm 6) (gTm j))) ∨ gFL[([125, 126, 127, 128, 129, 130, 0, 144, 157, 173, 189, 209, 229, 250, 294, 343] : List Nat).getD j 0]? = some (Cond.not (Cond.eq (gTm j) (gTm 6))) := by decide +kernel
theorem st_ne_7 : ∀ j, j < 16 → 7 ≠ j → gFL[([138, 139, 140, 141, 142, 143, 144, 0, 158, 174, 190, 210, 230, 251, 295, 344] : List Nat).getD j 0]? = some (Cond.not (Cond.eq (gTm 7) (gTm j))) ∨ gFL[([138, 139, 140, 141, 142, 143, 144, 0, 158, 174, 190, 210, 230, 251, 295, 344] : List Nat).getD j 0]? = some (Cond.not (Cond.eq (gTm j) (gTm 7))) := by decide +kernel
theorem st_ne_8 : ∀ j, j < 16 → 8 ≠ j → gFL[([151, 152, 153, 154, 155, 156, 157, 158, 0, 175, 191, 211, 231, 252, 296, 345] : List Nat).getD j 0]? = some (Cond.not (Cond.eq (gTm 8) (gTm j))) ∨ gFL[([151, 152, 153, 154, 155, 156, 157, 158, 0, 175, 191, 211, 231, 252, 296, 345] : List Nat).getD j 0]? = some (Cond.not (Cond.eq (gTm j) (gTm 8))) := by decide +kernel
theorem st_ne_9 : ∀ j, j < 16 → 9 ≠ j → gFL[([167, 168, 169, 170, 171, 172, 173, 174, 175, 0, 192, 212, 232, 253, 297, 346] : List Nat).getD j 0]? = some (Cond.not (Cond.eq (gTm 9) (gTm j))) ∨ gFL[([167, 168, 169, 170, 171, 172, 173, 174, 175, 0, 192, 212, 232, 253, 297, 346] : List Nat).getD j 0]? = some (Cond.not (Cond.eq (gTm j) (gTm 9))) := by decide +kernel
theorem st_ne_10 : ∀ j, j < 16 → 10 ≠ j → gFL[([183, 184, 185, 186, 187, 188, 189, 190, 191, 192, 0, 213, 233, 254, 298, 347] : List Nat).getD j 0]? = some (Cond.not (Cond.eq (gTm 10) (gTm j))) ∨ gFL[([183, 184, 185, 186, 187, 188, 189, 190, 191, 192, 0, 213, 233, 254, 298, 347] : List Nat).getD j 0]? = some (Cond.not (Cond.eq (gTm j) (gTm 10))) := by decide +kernel
theorem st_ne_11 : ∀ j, j < 16 → 11 ≠ j → gFL[([203, 204, 205, 206, 207, 208, 209, 210, 211, 212, 213, 0, 234, 255, 299, 348] : List Nat).getD j 0]? = some (Cond.not (Cond.eq (gTm 11) (gTm j))) ∨ gFL[([203, 204, 205, 206, 207, 208, 209, 210, 211, 212, 213, 0, 234, 255, 299, 348] : List Nat).getD j 0]? = some (Cond.not (Cond.eq (gTm j) (gTm 11))) := by decide +kernel
theorem st_ne_12 : ∀ j, j < 16 → 12 ≠ j → gFL[([223, 224, 225, 226, 227, 228, 229, 230, 231, 232, 233, 234, 0, 256, 300, 349] : List Nat).getD j 0]? = some (Cond.not (Cond.eq (gTm 12) (gTm j))) ∨ gFL[([223, 224, 225, 226, 227, 228, 229, 230, 231, 232, 233, 234, 0, 256, 300, 349] : List Nat).getD j 0]? = some (Cond.not (Cond.eq (gTm j) (gTm 12))) := by decide +kernel
theorem st_ne_13 : ∀ j, j < 16 → 13 ≠ j → gFL[([244, 245, 246, 247, 248, 249, 250, 251, 252, 253, 254, 255, 256, 0, 301, 350] : List Nat).getD j 0]? = some (Cond.not (Cond.eq (gTm 13) (gTm j))) ∨ gFL[([244, 245, 246, 247, 248, 249, 250, 251, 252, 253, 254, 255, 256, 0, 301, 350] : List Nat).getD j 0]? = some (Cond.not (Cond.eq (gTm j) (gTm 13))) := by decide +kernel
theorem st_ne_14 : ∀ j, j < 16 → 14 ≠ j → gFL[([288, 289, 290, 291, 292, 293, 294, 295, 296, 297, 298, 299, 300, 301, 0, 351] : List Nat).getD j 0]? = some (Cond.not (Cond.eq (gTm 14) (gTm j))) ∨ gFL[([288, 289, 290, 291, 292, 293, 294, 295, 296, 297, 298, 299, 300, 301, 0, 351] : List Nat).getD j 0]? = some (Cond.not (Cond.eq (gTm j) (gTm 14))) := by decide +kernel
theorem st_ne_15 : ∀ j, j < 16 → 15 ≠ j → gFL[([337, 338, 339, 340, 341, 342, 343, 344, 345, 346, 347, 348, 349, 350, 351, 0] : List Nat).getD j 0]? = some (Cond.not (Cond.eq (gTm 15) (gTm j))) ∨ gFL[([337, 338, 339, 340, 341, 342, 343, 344, 345, 346, 347, 348, 349, 350, 351, 0] : List Nat).getD j 0]? = some (Cond.not (Cond.eq (gTm j) (gTm 15))) := by decide +kernel
theorem st_ne (i : Nat) (hi : i < 16) (j : Nat) (hj : j < 16) (h : i ≠ j) : (Cond.not (Cond.eq (gTm i) (gTm j))) ∈ gFL ∨ (Cond.not (Cond.eq (gTm j) (gTm i))) ∈ gFL := by
  match i, hi, h with
  | 0, _, h => exact (st_ne_0 j hj h).imp List.mem_of_getElem? List.mem_of_getElem?
  | 1, _, h => exact (st_ne_1 j hj h).imp List.mem_of_getElem? List.mem_of_getElem?
  | 2, _, h => exact (st_ne_2 j hj h).imp List.mem_of_getElem? List.mem_of_getElem?
  | 3, _, h => exact (st_ne_3 j hj h).imp List.mem_of_getElem? List.mem_of_getElem?
  | 4, _, h => exact (st_ne_4 j hj h).imp List.mem_of_getElem? List.mem_of_getElem?
  | 5, _, h => exact (st_ne_5 j hj h).imp List.mem_of_getElem? List.mem_of_getElem?
  | 6, _, h => exact (st_ne_6 j hj h).imp List.mem_of_getElem? List.mem_of_getElem?
  | 7, _, h => exact (st_ne_7 j hj h).imp List.mem_of_getElem? List.mem_of_getElem?
  | 8, _, h => exact (st_ne_8 j hj h).imp List.mem_of_getElem? List.mem_of_getElem?
  | 9, _, h => exact (st_ne_9 j hj h).imp List.mem_of_getElem? List.mem_of_getElem?
  | 10, _, h => exact (st_ne_10 j hj h).imp List.mem_of_getElem? List.mem_of_getElem?
  | 11, _, h => exact (st_ne_11 j hj h).imp List.mem_of_getElem? List.mem_of_getElem?
  | 12, _, h => exact (st_ne_12 j hj h).imp List.mem_of_getElem? List.mem_of_getElem?
  | 13, _, h => exact (st_ne_13 j hj h).imp List.mem_of_getElem? List.mem_of_getElem?
  | 14, _, h => exact (st_ne_14 j hj h).imp List.mem_of_getElem? List.mem_of_getElem?
  | 15, _, h => exact (st_ne_15 j hj h).imp List.mem_of_getElem? List.mem_of_getElem?
  | n + 16, hi, _ => omega
theorem st_cs : (Cond.eq (.static "java/lang/String" "COMPACT_STRINGS" "Z") (.int 1)) ∈ gFL := by decide +kernel
theorem st_si : (Cond.isRef (.static "jdk/internal/util/Preconditions" "SIOOBE_FORMATTER" "Ljava/util/function/BiFunction;")) ∈ gFL := by decide +kernel
theorem st_us : (Cond.isRef (.static Bundle.tN "UNASSIGNED_STACK" Bundle.steD)) ∈ gFL := by decide +kernel
theorem st_ss : (Cond.isRef (.static Bundle.tN "SUPPRESSED_SENTINEL" Bundle.listD)) ∈ gFL := by decide +kernel
theorem ls_cs : Cond.laysStatic "java/lang/String" "COMPACT_STRINGS" "Z" ∈ lw_tbl := tb_2 238 (by decide +kernel)
theorem ls_si : Cond.laysStatic "jdk/internal/util/Preconditions" "SIOOBE_FORMATTER" "Ljava/util/function/BiFunction;" ∈ lw_tbl := tb_3 14 (by decide +kernel)
theorem ls_us : Cond.laysStatic Bundle.tN "UNASSIGNED_STACK" Bundle.steD ∈ lw_tbl := tb_5 120 (by decide +kernel)
theorem ls_ss : Cond.laysStatic Bundle.tN "SUPPRESSED_SENTINEL" Bundle.listD ∈ lw_tbl := tb_5 122 (by decide +kernel)
theorem ls_ca : Cond.castable "java/util/NoSuchElementException" "java/util/NoSuchElementException" ∈ lw_tbl := tb_5 95 (by decide +kernel)
theorem ls_d0 : Cond.declares (Bundle.initS "java/lang/RuntimeException") ∈ lw_tbl := tb_5 97 (by decide +kernel)
theorem ls_d1 : Cond.declares (Bundle.initS "java/lang/Exception") ∈ lw_tbl := tb_5 99 (by decide +kernel)
theorem ls_d2 : Cond.declares (Bundle.initS "java/lang/Throwable") ∈ lw_tbl := tb_5 101 (by decide +kernel)
theorem ls_oh : Cond.arrayOver (.object RX1) ∈ lw_tbl := tb_1 156 (by decide +kernel)
theorem ls_os : Cond.arrayOver (.object RX9) ∈ lw_tbl := tb_2 45 (by decide +kernel)
theorem ls_t0 : Cond.stringRef RX3 36 "room" ∈ lw_tbl := tb_2 224 (by decide +kernel)
theorem ls_t1 : Cond.stringRef RX3 46 "guest" ∈ lw_tbl := tb_3 54 (by decide +kernel)
theorem ls_t2 : Cond.stringRef RX3 91 "trunk" ∈ lw_tbl := tb_3 63 (by decide +kernel)
theorem ls_t3 : Cond.stringRef RX3 97 "bath" ∈ lw_tbl := tb_3 64 (by decide +kernel)
theorem ls_t4 : Cond.stringRef RX3 99 "ill" ∈ lw_tbl := tb_3 65 (by decide +kernel)
theorem ls_t5 : Cond.stringRef RX3 51 "rule" ∈ lw_tbl := tb_3 66 (by decide +kernel)
theorem ls_t6 : Cond.stringRef RX3 125 "not" ∈ lw_tbl := tb_3 67 (by decide +kernel)
theorem ls_t7 : Cond.stringRef RX3 134 "and" ∈ lw_tbl := tb_3 68 (by decide +kernel)
theorem ls_t8 : Cond.stringRef RX3 136 "or" ∈ lw_tbl := tb_3 69 (by decide +kernel)
theorem ls_t9 : Cond.stringRef RX3 138 "here" ∈ lw_tbl := tb_3 98 (by decide +kernel)
theorem ls_t10 : Cond.stringRef RX3 140 "gap" ∈ lw_tbl := tb_3 99 (by decide +kernel)
theorem ls_t11 : Cond.stringRef RX3 142 "floors" ∈ lw_tbl := tb_3 100 (by decide +kernel)
theorem ls_t12 : Cond.stringRef RX3 144 "stove" ∈ lw_tbl := tb_3 101 (by decide +kernel)
theorem ls_t13 : Cond.stringRef RX3 146 "moved" ∈ lw_tbl := tb_3 102 (by decide +kernel)
theorem ls_t14 : Cond.stringRef RX11 151 "no such rule, guest or room" ∈ lw_tbl := tb_5 132 (by decide +kernel)
theorem ls_t15 : Cond.stringRef RX11 156 "the guest is out, or in the gap" ∈ lw_tbl := tb_5 158 (by decide +kernel)
theorem ls_n0 : Cond.methodLinkNest RX11 9 yX10_init RX11 ∈ lw_tbl := tb_1 36 (by decide +kernel)
theorem ls_n1 : Cond.methodLinkNest RX11 27 yX7_init RX11 ∈ lw_tbl := tb_1 85 (by decide +kernel)
theorem ls_n2 : Cond.methodLinkNest RX9 24 yX0_init RX11 ∈ lw_tbl := tb_1 159 (by decide +kernel)
theorem ls_n3 : Cond.methodLinkNest RX9 31 yX8_init RX11 ∈ lw_tbl := tb_1 177 (by decide +kernel)
theorem ls_n4 : Cond.methodLinkNest RX9 38 yX6_init RX11 ∈ lw_tbl := tb_1 204 (by decide +kernel)
theorem ls_n5 : Cond.methodLinkNest RX9 45 yX4_init RX11 ∈ lw_tbl := tb_1 219 (by decide +kernel)
theorem ls_n6 : Cond.methodLinkNest RX11 47 yX5_init RX11 ∈ lw_tbl := tb_2 48 (by decide +kernel)
theorem ls_n7 : Cond.methodLinkNest RX11 68 yX2_init RX11 ∈ lw_tbl := tb_2 74 (by decide +kernel)
theorem ls_n8 : Cond.methodLinkNest RX1 68 yX11_bitOf RX11 ∈ lw_tbl := tb_3 225 (by decide +kernel)
theorem ls_n9 : Cond.methodLinkNest RX7 34 yX11_bitOf RX11 ∈ lw_tbl := tb_4 20 (by decide +kernel)
theorem ls_n10 : Cond.methodLinkNest RX6 26 yX11_bitOf RX11 ∈ lw_tbl := tb_4 168 (by decide +kernel)
theorem ls_n11 : Cond.methodLinkNest RX5 64 yX11_bitOf RX11 ∈ lw_tbl := tb_4 208 (by decide +kernel)
