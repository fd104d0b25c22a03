theorem tb_1 {w : Cond} (i : Nat) (h : tables_1_1[i]? = some w) : w ∈ lw_tbl := by
  have h : w ∈ tables_1_1 := List.mem_of_getElem? h
  exact List.mem_append_right _ (by unfold tables_1; exact List.mem_append_left _ h)
theorem tb_2 {w : Cond} (i : Nat) (h : tables_1_2[i]? = some w) : w ∈ lw_tbl := by
  have h : w ∈ tables_1_2 := List.mem_of_getElem? h
  exact List.mem_append_right _ (by unfold tables_1; exact List.mem_append_right _ (List.mem_append_left _ h))
theorem tb_3 {w : Cond} (i : Nat) (h : tables_1_3[i]? = some w) : w ∈ lw_tbl := by
  have h : w ∈ tables_1_3 := List.mem_of_getElem? h
  exact List.mem_append_right _ (by unfold tables_1; exact List.mem_append_right _ (List.mem_append_right _ (List.mem_append_left _ h)))
theorem tb_4 {w : Cond} (i : Nat) (h : tables_1_4[i]? = some w) : w ∈ lw_tbl := by
  have h : w ∈ tables_1_4 := List.mem_of_getElem? h
  exact List.mem_append_right _ (by unfold tables_1; exact List.mem_append_right _ (List.mem_append_right _ (List.mem_append_right _ (List.mem_append_left _ h))))
theorem tb_5 {w : Cond} (i : Nat) (h : tables_1_5[i]? = some w) : w ∈ lw_tbl := by
  have h : w ∈ tables_1_5 := List.mem_of_getElem? h
  exact List.mem_append_right _ (by unfold tables_1; exact List.mem_append_right _ (List.mem_append_right _ (List.mem_append_right _ (List.mem_append_right _ (List.mem_append_left _ h)))))
theorem tb_6 {w : Cond} (i : Nat) (h : tables_1_6[i]? = some w) : w ∈ lw_tbl := by
  have h : w ∈ tables_1_6 := List.mem_of_getElem? h
  exact List.mem_append_right _ (by unfold tables_1; exact List.mem_append_right _ (List.mem_append_right _ (List.mem_append_right _ (List.mem_append_right _ (List.mem_append_right _ (List.mem_append_left _ h))))))
theorem tb_7 {w : Cond} (i : Nat) (h : tables_1_7[i]? = some w) : w ∈ lw_tbl := by
  have h : w ∈ tables_1_7 := List.mem_of_getElem? h
  exact List.mem_append_right _ (by unfold tables_1; exact List.mem_append_right _ (List.mem_append_right _ (List.mem_append_right _ (List.mem_append_right _ (List.mem_append_right _ (List.mem_append_right _ (List.mem_append_left _ h)))))))
theorem tb_8 {w : Cond} (i : Nat) (h : tables_1_8[i]? = some w) : w ∈ lw_tbl := by
  have h : w ∈ tables_1_8 := List.mem_of_getElem? h
  exact List.mem_append_right _ (by unfold tables_1; exact List.mem_append_right _ (List.mem_append_right _ (List.mem_append_right _ (List.mem_append_right _ (List.mem_append_right _ (List.mem_append_right _ (List.mem_append_right _ (h))))))))
theorem gT_tbl : ∀ w ∈ gT, w ∈ lw_tbl := fun _ h => (List.mem_filter.mp h).1
def gTmL : List Term := [.string "MoveInn$InnReader" 36, .string "MoveInn$InnReader" 46, .string "MoveInn$InnReader" 91, .string "MoveInn$InnReader" 97, .string "MoveInn$InnReader" 99, .string "MoveInn$InnReader" 51, .string "MoveInn$InnReader" 125, .string "MoveInn$InnReader" 134, .string "MoveInn$InnReader" 136, .string "MoveInn$InnReader" 138, .string "MoveInn$InnReader" 140, .string "MoveInn$InnReader" 142, .string "MoveInn$InnReader" 144, .string "MoveInn$InnReader" 146, .string "MoveInn" 151, .string "MoveInn" 156]
def gTm (i : Nat) : Term := gTmL.getD i (.arg 0)
abbrev gFL : List Cond := flatC (Jvm.Cond.and given_1 narrow_1)
theorem st_ex : ∀ i, i < 16 → (Cond.exactly (gTm i) "java/lang/String") ∈ gFL := by decide +kernel
theorem st_co : ∀ i, i < 16 → (Cond.eq (.field (gTm i) "java/lang/String" "coder" "B") (.int 0)) ∈ gFL := by decide +kernel
theorem st_ar : ∀ i, i < 16 → (Cond.arrayOf (.field (gTm i) "java/lang/String" "value" "[B") .byte) ∈ gFL := by decide +kernel
theorem st_le : ∀ i, i < 16 → (Cond.eq (.length (.field (gTm i) "java/lang/String" "value" "[B")) (.int (Int32.ofNat (gLen.getD i 0)))) ∈ gFL := by decide +kernel
theorem st_el : ∀ i, i < 16 → ∀ j, j < gLen.getD i 0 → (Cond.eq (.elem (.field (gTm i) "java/lang/String" "value" "[B") (.int (Int32.ofNat j))) (.int ((gByt.getD i []).getD j 0))) ∈ gFL := by decide +kernel
theorem st_ne : ∀ i, i < 16 → ∀ j, j < 16 → i ≠ j → (Cond.not (Cond.eq (gTm i) (gTm j))) ∈ gFL ∨ (Cond.not (Cond.eq (gTm j) (gTm i))) ∈ gFL := by decide +kernel
theorem st_cs : (Cond.eq (.static "java/lang/String" "COMPACT_STRINGS" "Z") (.int 1)) ∈ gFL := by decide +kernel
theorem st_si : (Cond.isRef (.static "jdk/internal/util/Preconditions" "SIOOBE_FORMATTER" "Ljava/util/function/BiFunction;")) ∈ gFL := by decide +kernel
theorem st_us : (Cond.isRef (.static Bundle.tN "UNASSIGNED_STACK" Bundle.steD)) ∈ gFL := by decide +kernel
theorem st_ss : (Cond.isRef (.static Bundle.tN "SUPPRESSED_SENTINEL" Bundle.listD)) ∈ gFL := by decide +kernel
theorem ls_cs : Cond.laysStatic "java/lang/String" "COMPACT_STRINGS" "Z" ∈ lw_tbl := tb_2 238 (by decide +kernel)
theorem ls_si : Cond.laysStatic "jdk/internal/util/Preconditions" "SIOOBE_FORMATTER" "Ljava/util/function/BiFunction;" ∈ lw_tbl := tb_3 14 (by decide +kernel)
theorem ls_us : Cond.laysStatic Bundle.tN "UNASSIGNED_STACK" Bundle.steD ∈ lw_tbl := tb_5 120 (by decide +kernel)
theorem ls_ss : Cond.laysStatic Bundle.tN "SUPPRESSED_SENTINEL" Bundle.listD ∈ lw_tbl := tb_5 122 (by decide +kernel)
theorem ls_ca : Cond.castable "java/util/NoSuchElementException" "java/util/NoSuchElementException" ∈ lw_tbl := tb_5 95 (by decide +kernel)
theorem ls_d0 : Cond.declares (Bundle.initS "java/lang/RuntimeException") ∈ lw_tbl := tb_5 97 (by decide +kernel)
theorem ls_d1 : Cond.declares (Bundle.initS "java/lang/Exception") ∈ lw_tbl := tb_5 99 (by decide +kernel)
theorem ls_d2 : Cond.declares (Bundle.initS "java/lang/Throwable") ∈ lw_tbl := tb_5 101 (by decide +kernel)
theorem ls_oh : Cond.arrayOver (.object RX1) ∈ lw_tbl := tb_1 156 (by decide +kernel)
theorem ls_os : Cond.arrayOver (.object RX9) ∈ lw_tbl := tb_2 45 (by decide +kernel)
theorem ls_t0 : Cond.stringRef RX3 36 "room" ∈ lw_tbl := tb_2 224 (by decide +kernel)
theorem ls_t1 : Cond.stringRef RX3 46 "guest" ∈ lw_tbl := tb_3 54 (by decide +kernel)
theorem ls_t2 : Cond.stringRef RX3 91 "trunk" ∈ lw_tbl := tb_3 63 (by decide +kernel)
theorem ls_t3 : Cond.stringRef RX3 97 "bath" ∈ lw_tbl := tb_3 64 (by decide +kernel)
theorem ls_t4 : Cond.stringRef RX3 99 "ill" ∈ lw_tbl := tb_3 65 (by decide +kernel)
theorem ls_t5 : Cond.stringRef RX3 51 "rule" ∈ lw_tbl := tb_3 66 (by decide +kernel)
theorem ls_t6 : Cond.stringRef RX3 125 "not" ∈ lw_tbl := tb_3 67 (by decide +kernel)
theorem ls_t7 : Cond.stringRef RX3 134 "and" ∈ lw_tbl := tb_3 68 (by decide +kernel)
theorem ls_t8 : Cond.stringRef RX3 136 "or" ∈ lw_tbl := tb_3 69 (by decide +kernel)
theorem ls_t9 : Cond.stringRef RX3 138 "here" ∈ lw_tbl := tb_3 98 (by decide +kernel)
theorem ls_t10 : Cond.stringRef RX3 140 "gap" ∈ lw_tbl := tb_3 99 (by decide +kernel)
theorem ls_t11 : Cond.stringRef RX3 142 "floors" ∈ lw_tbl := tb_3 100 (by decide +kernel)
theorem ls_t12 : Cond.stringRef RX3 144 "stove" ∈ lw_tbl := tb_3 101 (by decide +kernel)
theorem ls_t13 : Cond.stringRef RX3 146 "moved" ∈ lw_tbl := tb_3 102 (by decide +kernel)
theorem ls_t14 : Cond.stringRef RX11 151 "no such rule, guest or room" ∈ lw_tbl := tb_5 132 (by decide +kernel)
theorem ls_t15 : Cond.stringRef RX11 156 "the guest is out, or in the gap" ∈ lw_tbl := tb_5 158 (by decide +kernel)
theorem ls_n0 : Cond.methodLinkNest RX11 9 yX10_init RX11 ∈ lw_tbl := tb_1 36 (by decide +kernel)
theorem ls_n1 : Cond.methodLinkNest RX11 27 yX7_init RX11 ∈ lw_tbl := tb_1 85 (by decide +kernel)
theorem ls_n2 : Cond.methodLinkNest RX9 24 yX0_init RX11 ∈ lw_tbl := tb_1 159 (by decide +kernel)
theorem ls_n3 : Cond.methodLinkNest RX9 31 yX8_init RX11 ∈ lw_tbl := tb_1 177 (by decide +kernel)
theorem ls_n4 : Cond.methodLinkNest RX9 38 yX6_init RX11 ∈ lw_tbl := tb_1 204 (by decide +kernel)
theorem ls_n5 : Cond.methodLinkNest RX9 45 yX4_init RX11 ∈ lw_tbl := tb_1 219 (by decide +kernel)
theorem ls_n6 : Cond.methodLinkNest RX11 47 yX5_init RX11 ∈ lw_tbl := tb_2 48 (by decide +kernel)
theorem ls_n7 : Cond.methodLinkNest RX11 68 yX2_init RX11 ∈ lw_tbl := tb_2 74 (by decide +kernel)
theorem ls_n8 : Cond.methodLinkNest RX1 68 yX11_bitOf RX11 ∈ lw_tbl := tb_3 225 (by decide +kernel)
theorem ls_n9 : Cond.methodLinkNest RX7 34 yX11_bitOf RX11 ∈ lw_tbl := tb_4 20 (by decide +kernel)
theorem ls_n10 : Cond.methodLinkNest RX6 26 yX11_bitOf RX11 ∈ lw_tbl := tb_4 168 (by decide +kernel)
theorem ls_n11 : Cond.methodLinkNest RX5 64 yX11_bitOf RX11 ∈ lw_tbl := tb_4 208 (by decide +kernel)
