/-! ===== words of the tables (made by wip/whole/gen_ok.py) ===== -/
theorem mtin_1 {w : Cond} (h : w ∈ tables_1_1) : w ∈ lw_tbl := List.mem_append_right _ (show w ∈ tables_1 from List.mem_append_left _ h)
theorem mtin_2 {w : Cond} (h : w ∈ tables_1_2) : w ∈ lw_tbl := List.mem_append_right _ (show w ∈ tables_1 from List.mem_append_right _ (List.mem_append_left _ h))
theorem mtin_3 {w : Cond} (h : w ∈ tables_1_3) : w ∈ lw_tbl := List.mem_append_right _ (show w ∈ tables_1 from List.mem_append_right _ (List.mem_append_right _ (List.mem_append_left _ h)))
theorem mtin_4 {w : Cond} (h : w ∈ tables_1_4) : w ∈ lw_tbl := List.mem_append_right _ (show w ∈ tables_1 from List.mem_append_right _ (List.mem_append_right _ (List.mem_append_right _ (List.mem_append_left _ h))))
theorem mtin_5 {w : Cond} (h : w ∈ tables_1_5) : w ∈ lw_tbl := List.mem_append_right _ (show w ∈ tables_1 from List.mem_append_right _ (List.mem_append_right _ (List.mem_append_right _ (List.mem_append_right _ (List.mem_append_left _ h)))))
theorem mtin_6 {w : Cond} (h : w ∈ tables_1_6) : w ∈ lw_tbl := List.mem_append_right _ (show w ∈ tables_1 from List.mem_append_right _ (List.mem_append_right _ (List.mem_append_right _ (List.mem_append_right _ (List.mem_append_right _ (List.mem_append_left _ h))))))
theorem mtin_7 {w : Cond} (h : w ∈ tables_1_7) : w ∈ lw_tbl := List.mem_append_right _ (show w ∈ tables_1 from List.mem_append_right _ (List.mem_append_right _ (List.mem_append_right _ (List.mem_append_right _ (List.mem_append_right _ (List.mem_append_right _ (List.mem_append_left _ h)))))))
theorem mtin_8 {w : Cond} (h : w ∈ tables_1_8) : w ∈ lw_tbl := List.mem_append_right _ (show w ∈ tables_1 from List.mem_append_right _ (List.mem_append_right _ (List.mem_append_right _ (List.mem_append_right _ (List.mem_append_right _ (List.mem_append_right _ (List.mem_append_right _ (h))))))))
set_option maxRecDepth 20000 in
theorem wd_0 : (Cond.methodLink "ClauseIndex$Clause" 3 ⟨"java/lang/Object", "<init>", "()V"⟩ : Cond) ∈ mgw := mgw_in (mtin_1 (List.mem_of_getElem? (i := 225) (by decide +kernel))) (by decide +kernel)
set_option maxRecDepth 20000 in
theorem wd_1 : (Cond.instanceMethod ⟨"java/lang/Object", "<init>", "()V"⟩ : Cond) ∈ mgw := mgw_in (mtin_1 (List.mem_of_getElem? (i := 20) (by decide +kernel))) (by decide +kernel)
set_option maxRecDepth 20000 in
theorem wd_2 : (Cond.arrayClass ClassFile.FieldType.int : Cond) ∈ mgw := mgw_in (mtin_1 (List.mem_of_getElem? (i := 44) (by decide +kernel))) (by decide +kernel)
set_option maxRecDepth 20000 in
theorem wd_3 : (Cond.fieldLink "ClauseIndex$Clause" 9 "ClauseIndex$Clause" "measures" "[I" : Cond) ∈ mgw := mgw_in (mtin_2 (List.mem_of_getElem? (i := 23) (by decide +kernel))) (by decide +kernel)
set_option maxRecDepth 20000 in
theorem wd_4 : (Cond.methodLink "ClauseIndex$Clause" 15 ⟨"ClauseIndex$Draft", "size", "()I"⟩ : Cond) ∈ mgw := mgw_in (mtin_1 (List.mem_of_getElem? (i := 226) (by decide +kernel))) (by decide +kernel)
set_option maxRecDepth 20000 in
theorem wd_5 : (Cond.instanceMethod ⟨"ClauseIndex$Draft", "size", "()I"⟩ : Cond) ∈ mgw := mgw_in (mtin_1 (List.mem_of_getElem? (i := 227) (by decide +kernel))) (by decide +kernel)
set_option maxRecDepth 20000 in
theorem wd_6 : (Cond.selects "ClauseIndex$Draft" ⟨"ClauseIndex$Draft", "size", "()I"⟩ ⟨"ClauseIndex$Draft", "size", "()I"⟩ : Cond) ∈ mgw := mgw_in (mtin_1 (List.mem_of_getElem? (i := 228) (by decide +kernel))) (by decide +kernel)
set_option maxRecDepth 20000 in
theorem wd_7 : (Cond.initialized "ClauseIndex$Draft" : Cond) ∈ mgw := mgw_in (mtin_1 (List.mem_of_getElem? (i := 3) (by decide +kernel))) (by decide +kernel)
set_option maxRecDepth 20000 in
theorem wd_8 : (Cond.static ⟨"java/lang/Math", "max", "(II)I"⟩ : Cond) ∈ mgw := mgw_in (mtin_1 (List.mem_of_getElem? (i := 231) (by decide +kernel))) (by decide +kernel)
set_option maxRecDepth 20000 in
theorem wd_9 : (Cond.initialized "java/lang/Math" : Cond) ∈ mgw := mgw_in (mtin_1 (List.mem_of_getElem? (i := 11) (by decide +kernel))) (by decide +kernel)
set_option maxRecDepth 20000 in
theorem wd_10 : (Cond.methodLink "ClauseIndex$Clause" 21 ⟨"java/lang/Math", "max", "(II)I"⟩ : Cond) ∈ mgw := mgw_in (mtin_1 (List.mem_of_getElem? (i := 230) (by decide +kernel))) (by decide +kernel)
set_option maxRecDepth 20000 in
theorem wd_11 : (Cond.fieldLink "ClauseIndex$Clause" 27 "ClauseIndex$Clause" "codes" "[I" : Cond) ∈ mgw := mgw_in (mtin_2 (List.mem_of_getElem? (i := 19) (by decide +kernel))) (by decide +kernel)
set_option maxRecDepth 20000 in
theorem wd_12 : (Cond.fieldLink "ClauseIndex$Clause" 30 "ClauseIndex$Clause" "depths" "[I" : Cond) ∈ mgw := mgw_in (mtin_2 (List.mem_of_getElem? (i := 20) (by decide +kernel))) (by decide +kernel)
set_option maxRecDepth 20000 in
theorem wd_13 : (Cond.fieldLink "ClauseIndex$Clause" 33 "ClauseIndex$Clause" "ends" "[I" : Cond) ∈ mgw := mgw_in (mtin_2 (List.mem_of_getElem? (i := 21) (by decide +kernel))) (by decide +kernel)
set_option maxRecDepth 20000 in
theorem wd_14 : (Cond.methodLink "ClauseIndex$Clause" 36 ⟨"ClauseIndex$Draft", "codeAt", "(I)I"⟩ : Cond) ∈ mgw := mgw_in (mtin_1 (List.mem_of_getElem? (i := 233) (by decide +kernel))) (by decide +kernel)
set_option maxRecDepth 20000 in
theorem wd_15 : (Cond.instanceMethod ⟨"ClauseIndex$Draft", "codeAt", "(I)I"⟩ : Cond) ∈ mgw := mgw_in (mtin_1 (List.mem_of_getElem? (i := 234) (by decide +kernel))) (by decide +kernel)
set_option maxRecDepth 20000 in
theorem wd_16 : (Cond.selects "ClauseIndex$Draft" ⟨"ClauseIndex$Draft", "codeAt", "(I)I"⟩ ⟨"ClauseIndex$Draft", "codeAt", "(I)I"⟩ : Cond) ∈ mgw := mgw_in (mtin_1 (List.mem_of_getElem? (i := 235) (by decide +kernel))) (by decide +kernel)
set_option maxRecDepth 20000 in
theorem wd_17 : (Cond.methodLink "ClauseIndex$Clause" 40 ⟨"ClauseIndex$Draft", "depthAt", "(I)I"⟩ : Cond) ∈ mgw := mgw_in (mtin_1 (List.mem_of_getElem? (i := 237) (by decide +kernel))) (by decide +kernel)
set_option maxRecDepth 20000 in
theorem wd_18 : (Cond.instanceMethod ⟨"ClauseIndex$Draft", "depthAt", "(I)I"⟩ : Cond) ∈ mgw := mgw_in (mtin_1 (List.mem_of_getElem? (i := 238) (by decide +kernel))) (by decide +kernel)
set_option maxRecDepth 20000 in
theorem wd_19 : (Cond.selects "ClauseIndex$Draft" ⟨"ClauseIndex$Draft", "depthAt", "(I)I"⟩ ⟨"ClauseIndex$Draft", "depthAt", "(I)I"⟩ : Cond) ∈ mgw := mgw_in (mtin_1 (List.mem_of_getElem? (i := 239) (by decide +kernel))) (by decide +kernel)
set_option maxRecDepth 20000 in
theorem wd_20 : (Cond.methodLink "ClauseIndex$Clause" 43 ⟨"ClauseIndex$Draft", "endOfTerm", "(I)I"⟩ : Cond) ∈ mgw := mgw_in (mtin_2 (List.mem_of_getElem? (i := 1) (by decide +kernel))) (by decide +kernel)
set_option maxRecDepth 20000 in
theorem wd_21 : (Cond.instanceMethod ⟨"ClauseIndex$Draft", "endOfTerm", "(I)I"⟩ : Cond) ∈ mgw := mgw_in (mtin_2 (List.mem_of_getElem? (i := 2) (by decide +kernel))) (by decide +kernel)
set_option maxRecDepth 20000 in
theorem wd_22 : (Cond.selects "ClauseIndex$Draft" ⟨"ClauseIndex$Draft", "endOfTerm", "(I)I"⟩ ⟨"ClauseIndex$Draft", "endOfTerm", "(I)I"⟩ : Cond) ∈ mgw := mgw_in (mtin_2 (List.mem_of_getElem? (i := 3) (by decide +kernel))) (by decide +kernel)
set_option maxRecDepth 20000 in
theorem wd_23 : (Cond.static ⟨"ClauseIndex$Clause", "startsOf", "([I)[I"⟩ : Cond) ∈ mgw := mgw_in (mtin_2 (List.mem_of_getElem? (i := 11) (by decide +kernel))) (by decide +kernel)
set_option maxRecDepth 20000 in
theorem wd_24 : (Cond.initialized "ClauseIndex$Clause" : Cond) ∈ mgw := mgw_in (mtin_1 (List.mem_of_getElem? (i := 10) (by decide +kernel))) (by decide +kernel)
set_option maxRecDepth 20000 in
theorem wd_25 : (Cond.methodLink "ClauseIndex$Clause" 46 ⟨"ClauseIndex$Clause", "startsOf", "([I)[I"⟩ : Cond) ∈ mgw := mgw_in (mtin_2 (List.mem_of_getElem? (i := 10) (by decide +kernel))) (by decide +kernel)
set_option maxRecDepth 20000 in
theorem wd_26 : (Cond.fieldLink "ClauseIndex$Clause" 50 "ClauseIndex$Clause" "starts" "[I" : Cond) ∈ mgw := mgw_in (mtin_2 (List.mem_of_getElem? (i := 22) (by decide +kernel))) (by decide +kernel)
set_option maxRecDepth 20000 in
theorem wd_27 : (Cond.static ⟨"ClauseIndex$Clause", "measureAll", "([I[I[I)V"⟩ : Cond) ∈ mgw := mgw_in (mtin_2 (List.mem_of_getElem? (i := 14) (by decide +kernel))) (by decide +kernel)
set_option maxRecDepth 20000 in
theorem wd_28 : (Cond.methodLink "ClauseIndex$Clause" 53 ⟨"ClauseIndex$Clause", "measureAll", "([I[I[I)V"⟩ : Cond) ∈ mgw := mgw_in (mtin_2 (List.mem_of_getElem? (i := 13) (by decide +kernel))) (by decide +kernel)
set_option maxRecDepth 20000 in
theorem wd_29 : (Cond.static ⟨"ClauseIndex$Clause", "raise", "([IIII)V"⟩ : Cond) ∈ mgw := mgw_in (mtin_2 (List.mem_of_getElem? (i := 17) (by decide +kernel))) (by decide +kernel)
set_option maxRecDepth 20000 in
theorem wd_30 : (Cond.methodLink "ClauseIndex$Clause" 57 ⟨"ClauseIndex$Clause", "raise", "([IIII)V"⟩ : Cond) ∈ mgw := mgw_in (mtin_2 (List.mem_of_getElem? (i := 16) (by decide +kernel))) (by decide +kernel)
set_option maxRecDepth 20000 in
theorem wd_31 : (Cond.methodLink "ClauseIndex$Clause" 61 ⟨"ClauseIndex$Clause", "size", "()I"⟩ : Cond) ∈ mgw := mgw_in (mtin_3 (List.mem_of_getElem? (i := 67) (by decide +kernel))) (by decide +kernel)
set_option maxRecDepth 20000 in
theorem wd_32 : (Cond.instanceMethod ⟨"ClauseIndex$Clause", "size", "()I"⟩ : Cond) ∈ mgw := mgw_in (mtin_2 (List.mem_of_getElem? (i := 212) (by decide +kernel))) (by decide +kernel)
set_option maxRecDepth 20000 in
theorem wd_33 : (Cond.selects "ClauseIndex$Clause" ⟨"ClauseIndex$Clause", "size", "()I"⟩ ⟨"ClauseIndex$Clause", "size", "()I"⟩ : Cond) ∈ mgw := mgw_in (mtin_2 (List.mem_of_getElem? (i := 213) (by decide +kernel))) (by decide +kernel)
set_option maxRecDepth 20000 in
theorem wd_34 : (Cond.static ⟨"ClauseIndex", "isVariable", "(I)Z"⟩ : Cond) ∈ mgw := mgw_in (mtin_2 (List.mem_of_getElem? (i := 224) (by decide +kernel))) (by decide +kernel)
set_option maxRecDepth 20000 in
theorem wd_35 : (Cond.initialized "ClauseIndex" : Cond) ∈ mgw := mgw_in (mtin_1 (List.mem_of_getElem? (i := 1) (by decide +kernel))) (by decide +kernel)
theorem wn_36 : (Cond.methodLinkNest "ClauseIndex$Clause" 62 ⟨"ClauseIndex", "isVariable", "(I)Z"⟩ "ClauseIndex" : Cond) ∈ mnw_ := List.mem_filter.mpr ⟨mtin_3 (List.mem_of_getElem? (i := 86) (by decide +kernel)), rfl⟩
set_option maxRecDepth 20000 in
theorem wd_37 : (Cond.static ⟨"ClauseIndex", "isFeature", "(I)Z"⟩ : Cond) ∈ mgw := mgw_in (mtin_3 (List.mem_of_getElem? (i := 229) (by decide +kernel))) (by decide +kernel)
theorem wn_38 : (Cond.methodLinkNest "ClauseIndex$Clause" 66 ⟨"ClauseIndex", "isFeature", "(I)Z"⟩ "ClauseIndex" : Cond) ∈ mnw_ := List.mem_filter.mpr ⟨mtin_3 (List.mem_of_getElem? (i := 235) (by decide +kernel)), rfl⟩
set_option maxRecDepth 20000 in
theorem wd_39 : (Cond.static ⟨"ClauseIndex", "byMode", "(III)I"⟩ : Cond) ∈ mgw := mgw_in (mtin_3 (List.mem_of_getElem? (i := 237) (by decide +kernel))) (by decide +kernel)
theorem wn_40 : (Cond.methodLinkNest "ClauseIndex$Clause" 69 ⟨"ClauseIndex", "byMode", "(III)I"⟩ "ClauseIndex" : Cond) ∈ mnw_ := List.mem_filter.mpr ⟨mtin_3 (List.mem_of_getElem? (i := 236) (by decide +kernel)), rfl⟩
set_option maxRecDepth 20000 in
theorem wd_41 : (Cond.methodLink "ClauseIndex$Clause" 73 ⟨"ClauseIndex$Clause", "start", "(I)I"⟩ : Cond) ∈ mgw := mgw_in (mtin_3 (List.mem_of_getElem? (i := 95) (by decide +kernel))) (by decide +kernel)
set_option maxRecDepth 20000 in
theorem wd_42 : (Cond.instanceMethod ⟨"ClauseIndex$Clause", "start", "(I)I"⟩ : Cond) ∈ mgw := mgw_in (mtin_3 (List.mem_of_getElem? (i := 69) (by decide +kernel))) (by decide +kernel)
set_option maxRecDepth 20000 in
theorem wd_43 : (Cond.selects "ClauseIndex$Clause" ⟨"ClauseIndex$Clause", "start", "(I)I"⟩ ⟨"ClauseIndex$Clause", "start", "(I)I"⟩ : Cond) ∈ mgw := mgw_in (mtin_3 (List.mem_of_getElem? (i := 70) (by decide +kernel))) (by decide +kernel)
set_option maxRecDepth 20000 in
theorem wd_44 : (Cond.methodLink "ClauseIndex$Clause" 76 ⟨"ClauseIndex$Clause", "codeAt", "(I)I"⟩ : Cond) ∈ mgw := mgw_in (mtin_3 (List.mem_of_getElem? (i := 96) (by decide +kernel))) (by decide +kernel)
set_option maxRecDepth 20000 in
theorem wd_45 : (Cond.instanceMethod ⟨"ClauseIndex$Clause", "codeAt", "(I)I"⟩ : Cond) ∈ mgw := mgw_in (mtin_2 (List.mem_of_getElem? (i := 237) (by decide +kernel))) (by decide +kernel)
set_option maxRecDepth 20000 in
theorem wd_46 : (Cond.selects "ClauseIndex$Clause" ⟨"ClauseIndex$Clause", "codeAt", "(I)I"⟩ ⟨"ClauseIndex$Clause", "codeAt", "(I)I"⟩ : Cond) ∈ mgw := mgw_in (mtin_2 (List.mem_of_getElem? (i := 238) (by decide +kernel))) (by decide +kernel)
set_option maxRecDepth 20000 in
theorem wd_47 : (Cond.methodLink "ClauseIndex$Clause" 77 ⟨"ClauseIndex$Clause", "sameRun", "(III)Z"⟩ : Cond) ∈ mgw := mgw_in (mtin_3 (List.mem_of_getElem? (i := 97) (by decide +kernel))) (by decide +kernel)
set_option maxRecDepth 20000 in
theorem wd_48 : (Cond.instanceMethod ⟨"ClauseIndex$Clause", "sameRun", "(III)Z"⟩ : Cond) ∈ mgw := mgw_in (mtin_3 (List.mem_of_getElem? (i := 98) (by decide +kernel))) (by decide +kernel)
set_option maxRecDepth 20000 in
theorem wd_49 : (Cond.selects "ClauseIndex$Clause" ⟨"ClauseIndex$Clause", "sameRun", "(III)Z"⟩ ⟨"ClauseIndex$Clause", "sameRun", "(III)Z"⟩ : Cond) ∈ mgw := mgw_in (mtin_3 (List.mem_of_getElem? (i := 99) (by decide +kernel))) (by decide +kernel)
set_option maxRecDepth 20000 in
theorem wd_50 : (Cond.methodLink "ClauseIndex$Draft" 3 ⟨"java/lang/Object", "<init>", "()V"⟩ : Cond) ∈ mgw := mgw_in (mtin_1 (List.mem_of_getElem? (i := 33) (by decide +kernel))) (by decide +kernel)
set_option maxRecDepth 20000 in
theorem wd_51 : (Cond.fieldLink "ClauseIndex$Draft" 9 "ClauseIndex$Draft" "codes" "[I" : Cond) ∈ mgw := mgw_in (mtin_1 (List.mem_of_getElem? (i := 34) (by decide +kernel))) (by decide +kernel)
set_option maxRecDepth 20000 in
theorem wd_52 : (Cond.fieldLink "ClauseIndex$Draft" 15 "ClauseIndex$Draft" "depths" "[I" : Cond) ∈ mgw := mgw_in (mtin_1 (List.mem_of_getElem? (i := 35) (by decide +kernel))) (by decide +kernel)
set_option maxRecDepth 20000 in
theorem wd_53 : (Cond.fieldLink "ClauseIndex$Draft" 18 "ClauseIndex$Draft" "size" "I" : Cond) ∈ mgw := mgw_in (mtin_1 (List.mem_of_getElem? (i := 36) (by decide +kernel))) (by decide +kernel)
set_option maxRecDepth 20000 in
theorem wd_54 : (Cond.methodLink "ClauseIndex$Draft" 22 ⟨"ClauseIndex$Draft", "empty", "()V"⟩ : Cond) ∈ mgw := mgw_in (mtin_2 (List.mem_of_getElem? (i := 231) (by decide +kernel))) (by decide +kernel)
set_option maxRecDepth 20000 in
theorem wd_55 : (Cond.instanceMethod ⟨"ClauseIndex$Draft", "empty", "()V"⟩ : Cond) ∈ mgw := mgw_in (mtin_2 (List.mem_of_getElem? (i := 110) (by decide +kernel))) (by decide +kernel)
set_option maxRecDepth 20000 in
theorem wd_56 : (Cond.selects "ClauseIndex$Draft" ⟨"ClauseIndex$Draft", "empty", "()V"⟩ ⟨"ClauseIndex$Draft", "empty", "()V"⟩ : Cond) ∈ mgw := mgw_in (mtin_2 (List.mem_of_getElem? (i := 111) (by decide +kernel))) (by decide +kernel)
set_option maxRecDepth 20000 in
theorem wd_57 : (Cond.methodLink "ClauseIndex$Draft" 25 ⟨"ClauseIndex$Clause", "symbols", "()I"⟩ : Cond) ∈ mgw := mgw_in (mtin_2 (List.mem_of_getElem? (i := 232) (by decide +kernel))) (by decide +kernel)
set_option maxRecDepth 20000 in
theorem wd_58 : (Cond.instanceMethod ⟨"ClauseIndex$Clause", "symbols", "()I"⟩ : Cond) ∈ mgw := mgw_in (mtin_2 (List.mem_of_getElem? (i := 233) (by decide +kernel))) (by decide +kernel)
set_option maxRecDepth 20000 in
theorem wd_59 : (Cond.selects "ClauseIndex$Clause" ⟨"ClauseIndex$Clause", "symbols", "()I"⟩ ⟨"ClauseIndex$Clause", "symbols", "()I"⟩ : Cond) ∈ mgw := mgw_in (mtin_2 (List.mem_of_getElem? (i := 234) (by decide +kernel))) (by decide +kernel)
set_option maxRecDepth 20000 in
theorem wd_60 : (Cond.methodLink "ClauseIndex$Draft" 31 ⟨"ClauseIndex$Clause", "codeAt", "(I)I"⟩ : Cond) ∈ mgw := mgw_in (mtin_2 (List.mem_of_getElem? (i := 236) (by decide +kernel))) (by decide +kernel)
set_option maxRecDepth 20000 in
theorem wd_61 : (Cond.methodLink "ClauseIndex$Draft" 35 ⟨"ClauseIndex$Clause", "depthAt", "(I)I"⟩ : Cond) ∈ mgw := mgw_in (mtin_3 (List.mem_of_getElem? (i := 0) (by decide +kernel))) (by decide +kernel)
set_option maxRecDepth 20000 in
theorem wd_62 : (Cond.instanceMethod ⟨"ClauseIndex$Clause", "depthAt", "(I)I"⟩ : Cond) ∈ mgw := mgw_in (mtin_3 (List.mem_of_getElem? (i := 1) (by decide +kernel))) (by decide +kernel)
set_option maxRecDepth 20000 in
theorem wd_63 : (Cond.selects "ClauseIndex$Clause" ⟨"ClauseIndex$Clause", "depthAt", "(I)I"⟩ ⟨"ClauseIndex$Clause", "depthAt", "(I)I"⟩ : Cond) ∈ mgw := mgw_in (mtin_3 (List.mem_of_getElem? (i := 2) (by decide +kernel))) (by decide +kernel)
set_option maxRecDepth 20000 in
theorem wd_64 : (Cond.methodLink "ClauseIndex$Draft" 38 ⟨"ClauseIndex$Draft", "push", "(II)Z"⟩ : Cond) ∈ mgw := mgw_in (mtin_3 (List.mem_of_getElem? (i := 4) (by decide +kernel))) (by decide +kernel)
set_option maxRecDepth 20000 in
theorem wd_65 : (Cond.instanceMethod ⟨"ClauseIndex$Draft", "push", "(II)Z"⟩ : Cond) ∈ mgw := mgw_in (mtin_2 (List.mem_of_getElem? (i := 136) (by decide +kernel))) (by decide +kernel)
set_option maxRecDepth 20000 in
theorem wd_66 : (Cond.selects "ClauseIndex$Draft" ⟨"ClauseIndex$Draft", "push", "(II)Z"⟩ ⟨"ClauseIndex$Draft", "push", "(II)Z"⟩ : Cond) ∈ mgw := mgw_in (mtin_2 (List.mem_of_getElem? (i := 137) (by decide +kernel))) (by decide +kernel)
set_option maxRecDepth 20000 in
theorem wd_67 : (Cond.methodLink "ClauseIndex$Draft" 42 ⟨"ClauseIndex$Draft", "size", "()I"⟩ : Cond) ∈ mgw := mgw_in (mtin_3 (List.mem_of_getElem? (i := 14) (by decide +kernel))) (by decide +kernel)
set_option maxRecDepth 20000 in
theorem wd_68 : (Cond.methodLink "ClauseIndex$Draft" 44 ⟨"ClauseIndex$Draft", "codeAt", "(I)I"⟩ : Cond) ∈ mgw := mgw_in (mtin_2 (List.mem_of_getElem? (i := 6) (by decide +kernel))) (by decide +kernel)
set_option maxRecDepth 20000 in
theorem wd_69 : (Cond.methodLink "ClauseIndex$Draft" 45 ⟨"ClauseIndex$Draft", "depthAt", "(I)I"⟩ : Cond) ∈ mgw := mgw_in (mtin_3 (List.mem_of_getElem? (i := 15) (by decide +kernel))) (by decide +kernel)
set_option maxRecDepth 20000 in
theorem wd_70 : (Cond.methodLink "ClauseIndex$Draft" 46 ⟨"ClauseIndex$Draft", "pushTerm", "(LClauseIndex$Draft;III)Z"⟩ : Cond) ∈ mgw := mgw_in (mtin_3 (List.mem_of_getElem? (i := 16) (by decide +kernel))) (by decide +kernel)
set_option maxRecDepth 20000 in
theorem wd_71 : (Cond.instanceMethod ⟨"ClauseIndex$Draft", "pushTerm", "(LClauseIndex$Draft;III)Z"⟩ : Cond) ∈ mgw := mgw_in (mtin_3 (List.mem_of_getElem? (i := 18) (by decide +kernel))) (by decide +kernel)
theorem wd_72 : (Cond.selects "ClauseIndex$Draft" ⟨"ClauseIndex$Draft", "pushTerm", "(LClauseIndex$Draft;III)Z"⟩ ⟨"ClauseIndex$Draft", "pushTerm", "(LClauseIndex$Draft;III)Z"⟩ : Cond) ∈ mgw := mgw_in (List.mem_append_left _ (List.mem_of_getElem? (i := 10) (by decide +kernel))) (by decide +kernel)
set_option maxRecDepth 20000 in
theorem wd_73 : (Cond.methodLink "ClauseIndex$Draft" 50 ⟨"java/lang/Math", "max", "(II)I"⟩ : Cond) ∈ mgw := mgw_in (mtin_2 (List.mem_of_getElem? (i := 5) (by decide +kernel))) (by decide +kernel)
set_option maxRecDepth 20000 in
theorem wd_74 : (Cond.static ⟨"ClauseIndex", "termsBehind", "(I)I"⟩ : Cond) ∈ mgw := mgw_in (mtin_2 (List.mem_of_getElem? (i := 8) (by decide +kernel))) (by decide +kernel)
theorem wn_75 : (Cond.methodLinkNest "ClauseIndex$Draft" 56 ⟨"ClauseIndex", "termsBehind", "(I)I"⟩ "ClauseIndex" : Cond) ∈ mnw_ := List.mem_filter.mpr ⟨mtin_2 (List.mem_of_getElem? (i := 7) (by decide +kernel)), rfl⟩
set_option maxRecDepth 20000 in
theorem wd_76 : (Cond.methodLink "ClauseIndex$History" 3 ⟨"java/lang/Object", "<init>", "()V"⟩ : Cond) ∈ mgw := mgw_in (mtin_1 (List.mem_of_getElem? (i := 161) (by decide +kernel))) (by decide +kernel)
set_option maxRecDepth 20000 in
theorem wd_77 : (Cond.classLink "ClauseIndex$History" 9 "ClauseIndex$State" : Cond) ∈ mgw := mgw_in (mtin_1 (List.mem_of_getElem? (i := 162) (by decide +kernel))) (by decide +kernel)
set_option maxRecDepth 20000 in
theorem wd_78 : (Cond.fieldLink "ClauseIndex$History" 11 "ClauseIndex$History" "states" "[LClauseIndex$State;" : Cond) ∈ mgw := mgw_in (mtin_1 (List.mem_of_getElem? (i := 181) (by decide +kernel))) (by decide +kernel)
set_option maxRecDepth 20000 in
theorem wd_79 : (Cond.instantiable "ClauseIndex$State" 3 : Cond) ∈ mgw := mgw_in (mtin_1 (List.mem_of_getElem? (i := 164) (by decide +kernel))) (by decide +kernel)
set_option maxRecDepth 20000 in
theorem wd_80 : (Cond.initialized "ClauseIndex$State" : Cond) ∈ mgw := mgw_in (mtin_1 (List.mem_of_getElem? (i := 8) (by decide +kernel))) (by decide +kernel)
set_option maxRecDepth 20000 in
theorem wd_81 : (Cond.instanceMethod ⟨"ClauseIndex$State", "<init>", "()V"⟩ : Cond) ∈ mgw := mgw_in (mtin_1 (List.mem_of_getElem? (i := 166) (by decide +kernel))) (by decide +kernel)
theorem wn_82 : (Cond.methodLinkNest "ClauseIndex$History" 17 ⟨"ClauseIndex$State", "<init>", "()V"⟩ "ClauseIndex" : Cond) ∈ mnw_ := List.mem_filter.mpr ⟨mtin_1 (List.mem_of_getElem? (i := 165) (by decide +kernel)), rfl⟩
set_option maxRecDepth 20000 in
theorem wd_83 : (Cond.fieldLink "ClauseIndex$History" 18 "ClauseIndex$History" "size" "I" : Cond) ∈ mgw := mgw_in (mtin_1 (List.mem_of_getElem? (i := 183) (by decide +kernel))) (by decide +kernel)
set_option maxRecDepth 20000 in
theorem wd_84 : (Cond.fieldLink "ClauseIndex$History" 22 "ClauseIndex$History" "next" "I" : Cond) ∈ mgw := mgw_in (mtin_1 (List.mem_of_getElem? (i := 182) (by decide +kernel))) (by decide +kernel)
set_option maxRecDepth 20000 in
theorem wd_85 : (Cond.methodLink "ClauseIndex$History" 25 ⟨"ClauseIndex$State", "copy", "(LClauseIndex$State;)V"⟩ : Cond) ∈ mgw := mgw_in (mtin_2 (List.mem_of_getElem? (i := 171) (by decide +kernel))) (by decide +kernel)
set_option maxRecDepth 20000 in
theorem wd_86 : (Cond.instanceMethod ⟨"ClauseIndex$State", "copy", "(LClauseIndex$State;)V"⟩ : Cond) ∈ mgw := mgw_in (mtin_2 (List.mem_of_getElem? (i := 172) (by decide +kernel))) (by decide +kernel)
set_option maxRecDepth 20000 in
theorem wd_87 : (Cond.selects "ClauseIndex$State" ⟨"ClauseIndex$State", "copy", "(LClauseIndex$State;)V"⟩ ⟨"ClauseIndex$State", "copy", "(LClauseIndex$State;)V"⟩ : Cond) ∈ mgw := mgw_in (mtin_2 (List.mem_of_getElem? (i := 173) (by decide +kernel))) (by decide +kernel)
set_option maxRecDepth 20000 in
theorem wd_88 : (Cond.static ⟨"java/lang/Math", "floorMod", "(II)I"⟩ : Cond) ∈ mgw := mgw_in (mtin_2 (List.mem_of_getElem? (i := 192) (by decide +kernel))) (by decide +kernel)
set_option maxRecDepth 20000 in
theorem wd_89 : (Cond.methodLink "ClauseIndex$History" 29 ⟨"java/lang/Math", "floorMod", "(II)I"⟩ : Cond) ∈ mgw := mgw_in (mtin_2 (List.mem_of_getElem? (i := 191) (by decide +kernel))) (by decide +kernel)
set_option maxRecDepth 20000 in
theorem wd_90 : (Cond.static ⟨"java/lang/Math", "min", "(II)I"⟩ : Cond) ∈ mgw := mgw_in (mtin_2 (List.mem_of_getElem? (i := 107) (by decide +kernel))) (by decide +kernel)
set_option maxRecDepth 20000 in
theorem wd_91 : (Cond.methodLink "ClauseIndex$History" 35 ⟨"java/lang/Math", "min", "(II)I"⟩ : Cond) ∈ mgw := mgw_in (mtin_2 (List.mem_of_getElem? (i := 194) (by decide +kernel))) (by decide +kernel)
set_option maxRecDepth 20000 in
theorem wd_92 : (Cond.methodLink "ClauseIndex$Matcher" 3 ⟨"java/lang/Object", "<init>", "()V"⟩ : Cond) ∈ mgw := mgw_in (mtin_1 (List.mem_of_getElem? (i := 72) (by decide +kernel))) (by decide +kernel)
set_option maxRecDepth 20000 in
theorem wd_93 : (Cond.fieldLink "ClauseIndex$Matcher" 9 "ClauseIndex$Matcher" "row" "[I" : Cond) ∈ mgw := mgw_in (mtin_1 (List.mem_of_getElem? (i := 73) (by decide +kernel))) (by decide +kernel)
set_option maxRecDepth 20000 in
theorem wd_94 : (Cond.fieldLink "ClauseIndex$Matcher" 15 "ClauseIndex$Matcher" "terms" "[I" : Cond) ∈ mgw := mgw_in (mtin_1 (List.mem_of_getElem? (i := 74) (by decide +kernel))) (by decide +kernel)
set_option maxRecDepth 20000 in
theorem wd_95 : (Cond.methodLink "ClauseIndex$Matcher" 18 ⟨"ClauseIndex$Matcher", "aim", "(LClauseIndex$Clause;Z)V"⟩ : Cond) ∈ mgw := mgw_in (mtin_3 (List.mem_of_getElem? (i := 113) (by decide +kernel))) (by decide +kernel)
set_option maxRecDepth 20000 in
theorem wd_96 : (Cond.instanceMethod ⟨"ClauseIndex$Matcher", "aim", "(LClauseIndex$Clause;Z)V"⟩ : Cond) ∈ mgw := mgw_in (mtin_3 (List.mem_of_getElem? (i := 115) (by decide +kernel))) (by decide +kernel)
theorem wd_97 : (Cond.selects "ClauseIndex$Matcher" ⟨"ClauseIndex$Matcher", "aim", "(LClauseIndex$Clause;Z)V"⟩ ⟨"ClauseIndex$Matcher", "aim", "(LClauseIndex$Clause;Z)V"⟩ : Cond) ∈ mgw := mgw_in (List.mem_append_left _ (List.mem_of_getElem? (i := 13) (by decide +kernel))) (by decide +kernel)
set_option maxRecDepth 20000 in
theorem wd_98 : (Cond.initialized "ClauseIndex$Matcher" : Cond) ∈ mgw := mgw_in (mtin_1 (List.mem_of_getElem? (i := 4) (by decide +kernel))) (by decide +kernel)
set_option maxRecDepth 20000 in
theorem wd_99 : (Cond.static ⟨"ClauseIndex$Matcher", "allOf", "(LClauseIndex$Clause;)I"⟩ : Cond) ∈ mgw := mgw_in (mtin_3 (List.mem_of_getElem? (i := 154) (by decide +kernel))) (by decide +kernel)
set_option maxRecDepth 20000 in
theorem wd_100 : (Cond.methodLink "ClauseIndex$Matcher" 22 ⟨"ClauseIndex$Matcher", "allOf", "(LClauseIndex$Clause;)I"⟩ : Cond) ∈ mgw := mgw_in (mtin_3 (List.mem_of_getElem? (i := 153) (by decide +kernel))) (by decide +kernel)
set_option maxRecDepth 20000 in
theorem wd_101 : (Cond.methodLink "ClauseIndex$Matcher" 26 ⟨"ClauseIndex$Matcher", "settle", "(LClauseIndex$Clause;LClauseIndex$Clause;II)V"⟩ : Cond) ∈ mgw := mgw_in (mtin_3 (List.mem_of_getElem? (i := 118) (by decide +kernel))) (by decide +kernel)
set_option maxRecDepth 20000 in
theorem wd_102 : (Cond.instanceMethod ⟨"ClauseIndex$Matcher", "settle", "(LClauseIndex$Clause;LClauseIndex$Clause;II)V"⟩ : Cond) ∈ mgw := mgw_in (mtin_3 (List.mem_of_getElem? (i := 120) (by decide +kernel))) (by decide +kernel)
theorem wd_103 : (Cond.selects "ClauseIndex$Matcher" ⟨"ClauseIndex$Matcher", "settle", "(LClauseIndex$Clause;LClauseIndex$Clause;II)V"⟩ ⟨"ClauseIndex$Matcher", "settle", "(LClauseIndex$Clause;LClauseIndex$Clause;II)V"⟩ : Cond) ∈ mgw := mgw_in (List.mem_append_left _ (List.mem_of_getElem? (i := 14) (by decide +kernel))) (by decide +kernel)
set_option maxRecDepth 20000 in
theorem wd_104 : (Cond.fieldLink "ClauseIndex$Matcher" 30 "ClauseIndex$Matcher" "found" "I" : Cond) ∈ mgw := mgw_in (mtin_1 (List.mem_of_getElem? (i := 77) (by decide +kernel))) (by decide +kernel)
set_option maxRecDepth 20000 in
theorem wd_105 : (Cond.constant "ClauseIndex$Matcher" 34 (1000000 : Int32) : Cond) ∈ mgw := mgw_in (mtin_3 (List.mem_of_getElem? (i := 164) (by decide +kernel))) (by decide +kernel)
set_option maxRecDepth 20000 in
theorem wd_106 : (Cond.fieldLink "ClauseIndex$Matcher" 35 "ClauseIndex$Matcher" "enough" "I" : Cond) ∈ mgw := mgw_in (mtin_1 (List.mem_of_getElem? (i := 76) (by decide +kernel))) (by decide +kernel)
set_option maxRecDepth 20000 in
theorem wd_107 : (Cond.fieldLink "ClauseIndex$Matcher" 38 "ClauseIndex$Matcher" "last" "I" : Cond) ∈ mgw := mgw_in (mtin_1 (List.mem_of_getElem? (i := 75) (by decide +kernel))) (by decide +kernel)
set_option maxRecDepth 20000 in
theorem wd_108 : (Cond.methodLink "ClauseIndex$Matcher" 41 ⟨"ClauseIndex$Clause", "size", "()I"⟩ : Cond) ∈ mgw := mgw_in (mtin_3 (List.mem_of_getElem? (i := 117) (by decide +kernel))) (by decide +kernel)
set_option maxRecDepth 20000 in
theorem wd_109 : (Cond.fieldLink "ClauseIndex$Matcher" 47 "ClauseIndex$Matcher" "renaming" "Z" : Cond) ∈ mgw := mgw_in (mtin_1 (List.mem_of_getElem? (i := 81) (by decide +kernel))) (by decide +kernel)
set_option maxRecDepth 20000 in
theorem wd_110 : (Cond.methodLink "ClauseIndex$Matcher" 51 ⟨"ClauseIndex$Matcher", "isPut", "(I)Z"⟩ : Cond) ∈ mgw := mgw_in (mtin_3 (List.mem_of_getElem? (i := 137) (by decide +kernel))) (by decide +kernel)
set_option maxRecDepth 20000 in
theorem wd_111 : (Cond.instanceMethod ⟨"ClauseIndex$Matcher", "isPut", "(I)Z"⟩ : Cond) ∈ mgw := mgw_in (mtin_3 (List.mem_of_getElem? (i := 139) (by decide +kernel))) (by decide +kernel)
theorem wd_112 : (Cond.selects "ClauseIndex$Matcher" ⟨"ClauseIndex$Matcher", "isPut", "(I)Z"⟩ ⟨"ClauseIndex$Matcher", "isPut", "(I)Z"⟩ : Cond) ∈ mgw := mgw_in (List.mem_append_left _ (List.mem_of_getElem? (i := 17) (by decide +kernel))) (by decide +kernel)
set_option maxRecDepth 20000 in
theorem wd_113 : (Cond.fieldLink "ClauseIndex$Matcher" 55 "ClauseIndex$Matcher" "put" "I" : Cond) ∈ mgw := mgw_in (mtin_1 (List.mem_of_getElem? (i := 78) (by decide +kernel))) (by decide +kernel)
set_option maxRecDepth 20000 in
theorem wd_114 : (Cond.fieldLink "ClauseIndex$Matcher" 58 "ClauseIndex$Matcher" "apart" "Z" : Cond) ∈ mgw := mgw_in (mtin_1 (List.mem_of_getElem? (i := 80) (by decide +kernel))) (by decide +kernel)
set_option maxRecDepth 20000 in
theorem wd_115 : (Cond.fieldLink "ClauseIndex$Matcher" 61 "ClauseIndex$Matcher" "taken" "I" : Cond) ∈ mgw := mgw_in (mtin_1 (List.mem_of_getElem? (i := 79) (by decide +kernel))) (by decide +kernel)
set_option maxRecDepth 20000 in
theorem wd_116 : (Cond.methodLink "ClauseIndex$Matcher" 64 ⟨"ClauseIndex$Matcher", "fits", "(LClauseIndex$Clause;LClauseIndex$Clause;II)Z"⟩ : Cond) ∈ mgw := mgw_in (mtin_3 (List.mem_of_getElem? (i := 122) (by decide +kernel))) (by decide +kernel)
set_option maxRecDepth 20000 in
theorem wd_117 : (Cond.instanceMethod ⟨"ClauseIndex$Matcher", "fits", "(LClauseIndex$Clause;LClauseIndex$Clause;II)Z"⟩ : Cond) ∈ mgw := mgw_in (mtin_3 (List.mem_of_getElem? (i := 124) (by decide +kernel))) (by decide +kernel)
theorem wd_118 : (Cond.selects "ClauseIndex$Matcher" ⟨"ClauseIndex$Matcher", "fits", "(LClauseIndex$Clause;LClauseIndex$Clause;II)Z"⟩ ⟨"ClauseIndex$Matcher", "fits", "(LClauseIndex$Clause;LClauseIndex$Clause;II)Z"⟩ : Cond) ∈ mgw := mgw_in (List.mem_append_left _ (List.mem_of_getElem? (i := 15) (by decide +kernel))) (by decide +kernel)
set_option maxRecDepth 20000 in
theorem wd_119 : (Cond.methodLink "ClauseIndex$Matcher" 68 ⟨"ClauseIndex$Clause", "start", "(I)I"⟩ : Cond) ∈ mgw := mgw_in (mtin_3 (List.mem_of_getElem? (i := 126) (by decide +kernel))) (by decide +kernel)
set_option maxRecDepth 20000 in
theorem wd_120 : (Cond.methodLink "ClauseIndex$Matcher" 72 ⟨"ClauseIndex$Clause", "codeAt", "(I)I"⟩ : Cond) ∈ mgw := mgw_in (mtin_3 (List.mem_of_getElem? (i := 127) (by decide +kernel))) (by decide +kernel)
theorem wn_121 : (Cond.methodLinkNest "ClauseIndex$Matcher" 75 ⟨"ClauseIndex", "isVariable", "(I)Z"⟩ "ClauseIndex" : Cond) ∈ mnw_ := List.mem_filter.mpr ⟨mtin_3 (List.mem_of_getElem? (i := 128) (by decide +kernel)), rfl⟩
set_option maxRecDepth 20000 in
theorem wd_122 : (Cond.methodLink "ClauseIndex$Matcher" 78 ⟨"ClauseIndex$Clause", "endOfTerm", "(I)I"⟩ : Cond) ∈ mgw := mgw_in (mtin_3 (List.mem_of_getElem? (i := 129) (by decide +kernel))) (by decide +kernel)
set_option maxRecDepth 20000 in
theorem wd_123 : (Cond.instanceMethod ⟨"ClauseIndex$Clause", "endOfTerm", "(I)I"⟩ : Cond) ∈ mgw := mgw_in (mtin_3 (List.mem_of_getElem? (i := 130) (by decide +kernel))) (by decide +kernel)
set_option maxRecDepth 20000 in
theorem wd_124 : (Cond.selects "ClauseIndex$Clause" ⟨"ClauseIndex$Clause", "endOfTerm", "(I)I"⟩ ⟨"ClauseIndex$Clause", "endOfTerm", "(I)I"⟩ : Cond) ∈ mgw := mgw_in (mtin_3 (List.mem_of_getElem? (i := 131) (by decide +kernel))) (by decide +kernel)
set_option maxRecDepth 20000 in
theorem wd_125 : (Cond.methodLink "ClauseIndex$Matcher" 81 ⟨"ClauseIndex$Matcher", "binds", "(LClauseIndex$Clause;III)Z"⟩ : Cond) ∈ mgw := mgw_in (mtin_3 (List.mem_of_getElem? (i := 133) (by decide +kernel))) (by decide +kernel)
set_option maxRecDepth 20000 in
theorem wd_126 : (Cond.instanceMethod ⟨"ClauseIndex$Matcher", "binds", "(LClauseIndex$Clause;III)Z"⟩ : Cond) ∈ mgw := mgw_in (mtin_3 (List.mem_of_getElem? (i := 135) (by decide +kernel))) (by decide +kernel)
theorem wd_127 : (Cond.selects "ClauseIndex$Matcher" ⟨"ClauseIndex$Matcher", "binds", "(LClauseIndex$Clause;III)Z"⟩ ⟨"ClauseIndex$Matcher", "binds", "(LClauseIndex$Clause;III)Z"⟩ : Cond) ∈ mgw := mgw_in (List.mem_append_left _ (List.mem_of_getElem? (i := 16) (by decide +kernel))) (by decide +kernel)
set_option maxRecDepth 20000 in
theorem wd_128 : (Cond.methodLink "ClauseIndex$Matcher" 85 ⟨"ClauseIndex$Clause", "sameRun", "(III)Z"⟩ : Cond) ∈ mgw := mgw_in (mtin_3 (List.mem_of_getElem? (i := 141) (by decide +kernel))) (by decide +kernel)
set_option maxRecDepth 20000 in
theorem wd_129 : (Cond.methodLink "ClauseIndex$Parting" 3 ⟨"java/lang/Object", "<init>", "()V"⟩ : Cond) ∈ mgw := mgw_in (mtin_1 (List.mem_of_getElem? (i := 131) (by decide +kernel))) (by decide +kernel)
set_option maxRecDepth 20000 in
theorem wd_130 : (Cond.classLink "ClauseIndex$Parting" 9 "[[I" : Cond) ∈ mgw := mgw_in (mtin_1 (List.mem_of_getElem? (i := 132) (by decide +kernel))) (by decide +kernel)
set_option maxRecDepth 20000 in
theorem wd_131 : (Cond.fieldLink "ClauseIndex$Parting" 11 "ClauseIndex$Parting" "notAbove" "[[I" : Cond) ∈ mgw := mgw_in (mtin_1 (List.mem_of_getElem? (i := 134) (by decide +kernel))) (by decide +kernel)
set_option maxRecDepth 20000 in
theorem wd_132 : (Cond.fieldLink "ClauseIndex$Parting" 16 "ClauseIndex$Parting" "left" "[I" : Cond) ∈ mgw := mgw_in (mtin_1 (List.mem_of_getElem? (i := 135) (by decide +kernel))) (by decide +kernel)
set_option maxRecDepth 20000 in
theorem wd_133 : (Cond.fieldLink "ClauseIndex$Parting" 20 "ClauseIndex$Parting" "values" "[I" : Cond) ∈ mgw := mgw_in (mtin_1 (List.mem_of_getElem? (i := 136) (by decide +kernel))) (by decide +kernel)
set_option maxRecDepth 20000 in
theorem wd_134 : (Cond.fieldLink "ClauseIndex$Parting" 23 "ClauseIndex$Parting" "powers" "[I" : Cond) ∈ mgw := mgw_in (mtin_1 (List.mem_of_getElem? (i := 137) (by decide +kernel))) (by decide +kernel)
set_option maxRecDepth 20000 in
theorem wd_135 : (Cond.methodLink "ClauseIndex$Parting" 26 ⟨"ClauseIndex$Parting", "readValues", "(LClauseIndex$State;II)V"⟩ : Cond) ∈ mgw := mgw_in (mtin_4 (List.mem_of_getElem? (i := 7) (by decide +kernel))) (by decide +kernel)
set_option maxRecDepth 20000 in
theorem wd_136 : (Cond.instanceMethod ⟨"ClauseIndex$Parting", "readValues", "(LClauseIndex$State;II)V"⟩ : Cond) ∈ mgw := mgw_in (mtin_4 (List.mem_of_getElem? (i := 9) (by decide +kernel))) (by decide +kernel)
theorem wd_137 : (Cond.selects "ClauseIndex$Parting" ⟨"ClauseIndex$Parting", "readValues", "(LClauseIndex$State;II)V"⟩ ⟨"ClauseIndex$Parting", "readValues", "(LClauseIndex$State;II)V"⟩ : Cond) ∈ mgw := mgw_in (List.mem_append_left _ (List.mem_of_getElem? (i := 21) (by decide +kernel))) (by decide +kernel)
set_option maxRecDepth 20000 in
theorem wd_138 : (Cond.initialized "ClauseIndex$Parting" : Cond) ∈ mgw := mgw_in (mtin_1 (List.mem_of_getElem? (i := 6) (by decide +kernel))) (by decide +kernel)
set_option maxRecDepth 20000 in
theorem wd_139 : (Cond.methodLink "ClauseIndex$Parting" 30 ⟨"ClauseIndex$Parting", "unlike", "(LClauseIndex$State;II)I"⟩ : Cond) ∈ mgw := mgw_in (mtin_4 (List.mem_of_getElem? (i := 21) (by decide +kernel))) (by decide +kernel)
set_option maxRecDepth 20000 in
theorem wd_140 : (Cond.instanceMethod ⟨"ClauseIndex$Parting", "unlike", "(LClauseIndex$State;II)I"⟩ : Cond) ∈ mgw := mgw_in (mtin_4 (List.mem_of_getElem? (i := 4) (by decide +kernel))) (by decide +kernel)
set_option maxRecDepth 20000 in
theorem wd_141 : (Cond.selects "ClauseIndex$Parting" ⟨"ClauseIndex$Parting", "unlike", "(LClauseIndex$State;II)I"⟩ ⟨"ClauseIndex$Parting", "unlike", "(LClauseIndex$State;II)I"⟩ : Cond) ∈ mgw := mgw_in (mtin_4 (List.mem_of_getElem? (i := 5) (by decide +kernel))) (by decide +kernel)
set_option maxRecDepth 20000 in
theorem wd_142 : (Cond.methodLink "ClauseIndex$Parting" 34 ⟨"ClauseIndex$Parting", "leaveAll", "(LClauseIndex$State;)V"⟩ : Cond) ∈ mgw := mgw_in (mtin_4 (List.mem_of_getElem? (i := 76) (by decide +kernel))) (by decide +kernel)
set_option maxRecDepth 20000 in
theorem wd_143 : (Cond.instanceMethod ⟨"ClauseIndex$Parting", "leaveAll", "(LClauseIndex$State;)V"⟩ : Cond) ∈ mgw := mgw_in (mtin_4 (List.mem_of_getElem? (i := 78) (by decide +kernel))) (by decide +kernel)
theorem wd_144 : (Cond.selects "ClauseIndex$Parting" ⟨"ClauseIndex$Parting", "leaveAll", "(LClauseIndex$State;)V"⟩ ⟨"ClauseIndex$Parting", "leaveAll", "(LClauseIndex$State;)V"⟩ : Cond) ∈ mgw := mgw_in (List.mem_append_left _ (List.mem_of_getElem? (i := 26) (by decide +kernel))) (by decide +kernel)
set_option maxRecDepth 20000 in
theorem wd_145 : (Cond.methodLink "ClauseIndex$Parting" 38 ⟨"ClauseIndex$State", "laid", "()I"⟩ : Cond) ∈ mgw := mgw_in (mtin_4 (List.mem_of_getElem? (i := 205) (by decide +kernel))) (by decide +kernel)
set_option maxRecDepth 20000 in
theorem wd_146 : (Cond.instanceMethod ⟨"ClauseIndex$State", "laid", "()I"⟩ : Cond) ∈ mgw := mgw_in (mtin_2 (List.mem_of_getElem? (i := 180) (by decide +kernel))) (by decide +kernel)
set_option maxRecDepth 20000 in
theorem wd_147 : (Cond.selects "ClauseIndex$State" ⟨"ClauseIndex$State", "laid", "()I"⟩ ⟨"ClauseIndex$State", "laid", "()I"⟩ : Cond) ∈ mgw := mgw_in (mtin_2 (List.mem_of_getElem? (i := 181) (by decide +kernel))) (by decide +kernel)
set_option maxRecDepth 20000 in
theorem wd_148 : (Cond.methodLink "ClauseIndex$Parting" 44 ⟨"ClauseIndex$State", "featureAt", "(I)I"⟩ : Cond) ∈ mgw := mgw_in (mtin_4 (List.mem_of_getElem? (i := 206) (by decide +kernel))) (by decide +kernel)
set_option maxRecDepth 20000 in
theorem wd_149 : (Cond.instanceMethod ⟨"ClauseIndex$State", "featureAt", "(I)I"⟩ : Cond) ∈ mgw := mgw_in (mtin_2 (List.mem_of_getElem? (i := 184) (by decide +kernel))) (by decide +kernel)
set_option maxRecDepth 20000 in
theorem wd_150 : (Cond.selects "ClauseIndex$State" ⟨"ClauseIndex$State", "featureAt", "(I)I"⟩ ⟨"ClauseIndex$State", "featureAt", "(I)I"⟩ : Cond) ∈ mgw := mgw_in (mtin_2 (List.mem_of_getElem? (i := 185) (by decide +kernel))) (by decide +kernel)
set_option maxRecDepth 20000 in
theorem wd_151 : (Cond.methodLink "ClauseIndex$Parting" 48 ⟨"ClauseIndex$Parting", "compare", "(LClauseIndex$State;II)V"⟩ : Cond) ∈ mgw := mgw_in (mtin_4 (List.mem_of_getElem? (i := 71) (by decide +kernel))) (by decide +kernel)
set_option maxRecDepth 20000 in
theorem wd_152 : (Cond.instanceMethod ⟨"ClauseIndex$Parting", "compare", "(LClauseIndex$State;II)V"⟩ : Cond) ∈ mgw := mgw_in (mtin_4 (List.mem_of_getElem? (i := 73) (by decide +kernel))) (by decide +kernel)
theorem wd_153 : (Cond.selects "ClauseIndex$Parting" ⟨"ClauseIndex$Parting", "compare", "(LClauseIndex$State;II)V"⟩ ⟨"ClauseIndex$Parting", "compare", "(LClauseIndex$State;II)V"⟩ : Cond) ∈ mgw := mgw_in (List.mem_append_left _ (List.mem_of_getElem? (i := 25) (by decide +kernel))) (by decide +kernel)
set_option maxRecDepth 20000 in
theorem wd_154 : (Cond.methodLink "ClauseIndex$Parting" 51 ⟨"ClauseIndex$Parting", "narrow", "(I)V"⟩ : Cond) ∈ mgw := mgw_in (mtin_4 (List.mem_of_getElem? (i := 90) (by decide +kernel))) (by decide +kernel)
set_option maxRecDepth 20000 in
theorem wd_155 : (Cond.instanceMethod ⟨"ClauseIndex$Parting", "narrow", "(I)V"⟩ : Cond) ∈ mgw := mgw_in (mtin_4 (List.mem_of_getElem? (i := 92) (by decide +kernel))) (by decide +kernel)
theorem wd_156 : (Cond.selects "ClauseIndex$Parting" ⟨"ClauseIndex$Parting", "narrow", "(I)V"⟩ ⟨"ClauseIndex$Parting", "narrow", "(I)V"⟩ : Cond) ∈ mgw := mgw_in (List.mem_append_left _ (List.mem_of_getElem? (i := 28) (by decide +kernel))) (by decide +kernel)
set_option maxRecDepth 20000 in
theorem wd_157 : (Cond.methodLink "ClauseIndex$Parting" 55 ⟨"ClauseIndex$Parting", "leftWith", "(I)I"⟩ : Cond) ∈ mgw := mgw_in (mtin_4 (List.mem_of_getElem? (i := 82) (by decide +kernel))) (by decide +kernel)
set_option maxRecDepth 20000 in
theorem wd_158 : (Cond.instanceMethod ⟨"ClauseIndex$Parting", "leftWith", "(I)I"⟩ : Cond) ∈ mgw := mgw_in (mtin_4 (List.mem_of_getElem? (i := 84) (by decide +kernel))) (by decide +kernel)
theorem wd_159 : (Cond.selects "ClauseIndex$Parting" ⟨"ClauseIndex$Parting", "leftWith", "(I)I"⟩ ⟨"ClauseIndex$Parting", "leftWith", "(I)I"⟩ : Cond) ∈ mgw := mgw_in (List.mem_append_left _ (List.mem_of_getElem? (i := 27) (by decide +kernel))) (by decide +kernel)
set_option maxRecDepth 20000 in
theorem wd_160 : (Cond.methodLink "ClauseIndex$Parting" 58 ⟨"ClauseIndex$Parting", "compareAll", "(LClauseIndex$State;I)V"⟩ : Cond) ∈ mgw := mgw_in (mtin_4 (List.mem_of_getElem? (i := 67) (by decide +kernel))) (by decide +kernel)
set_option maxRecDepth 20000 in
theorem wd_161 : (Cond.instanceMethod ⟨"ClauseIndex$Parting", "compareAll", "(LClauseIndex$State;I)V"⟩ : Cond) ∈ mgw := mgw_in (mtin_4 (List.mem_of_getElem? (i := 69) (by decide +kernel))) (by decide +kernel)
theorem wd_162 : (Cond.selects "ClauseIndex$Parting" ⟨"ClauseIndex$Parting", "compareAll", "(LClauseIndex$State;I)V"⟩ ⟨"ClauseIndex$Parting", "compareAll", "(LClauseIndex$State;I)V"⟩ : Cond) ∈ mgw := mgw_in (List.mem_append_left _ (List.mem_of_getElem? (i := 24) (by decide +kernel))) (by decide +kernel)
set_option maxRecDepth 20000 in
theorem wd_163 : (Cond.constant "ClauseIndex$Parting" 62 (1000000 : Int32) : Cond) ∈ mgw := mgw_in (mtin_4 (List.mem_of_getElem? (i := 81) (by decide +kernel))) (by decide +kernel)
set_option maxRecDepth 20000 in
theorem wd_164 : (Cond.static ⟨"ClauseIndex$Parting", "isAmong", "([III)Z"⟩ : Cond) ∈ mgw := mgw_in (mtin_4 (List.mem_of_getElem? (i := 88) (by decide +kernel))) (by decide +kernel)
set_option maxRecDepth 20000 in
theorem wd_165 : (Cond.methodLink "ClauseIndex$Parting" 63 ⟨"ClauseIndex$Parting", "isAmong", "([III)Z"⟩ : Cond) ∈ mgw := mgw_in (mtin_4 (List.mem_of_getElem? (i := 87) (by decide +kernel))) (by decide +kernel)
set_option maxRecDepth 20000 in
theorem wd_166 : (Cond.fieldLink "ClauseIndex$Parting" 67 "ClauseIndex$Parting" "leftByTwo" "I" : Cond) ∈ mgw := mgw_in (mtin_1 (List.mem_of_getElem? (i := 138) (by decide +kernel))) (by decide +kernel)
set_option maxRecDepth 20000 in
theorem wd_167 : (Cond.fieldLink "ClauseIndex$Parting" 71 "ClauseIndex$Parting" "lowerOfTwo" "I" : Cond) ∈ mgw := mgw_in (mtin_1 (List.mem_of_getElem? (i := 139) (by decide +kernel))) (by decide +kernel)
set_option maxRecDepth 20000 in
theorem wd_168 : (Cond.fieldLink "ClauseIndex$Parting" 74 "ClauseIndex$Parting" "higherOfTwo" "I" : Cond) ∈ mgw := mgw_in (mtin_1 (List.mem_of_getElem? (i := 140) (by decide +kernel))) (by decide +kernel)
theorem wn_169 : (Cond.methodLinkNest "ClauseIndex$Parting" 77 ⟨"ClauseIndex", "isFeature", "(I)Z"⟩ "ClauseIndex" : Cond) ∈ mnw_ := List.mem_filter.mpr ⟨mtin_4 (List.mem_of_getElem? (i := 75) (by decide +kernel)), rfl⟩
set_option maxRecDepth 20000 in
theorem wd_170 : (Cond.methodLink "ClauseIndex$Parting" 81 ⟨"ClauseIndex$State", "clause", "(I)LClauseIndex$Clause;"⟩ : Cond) ∈ mgw := mgw_in (mtin_4 (List.mem_of_getElem? (i := 11) (by decide +kernel))) (by decide +kernel)
set_option maxRecDepth 20000 in
theorem wd_171 : (Cond.instanceMethod ⟨"ClauseIndex$State", "clause", "(I)LClauseIndex$Clause;"⟩ : Cond) ∈ mgw := mgw_in (mtin_2 (List.mem_of_getElem? (i := 176) (by decide +kernel))) (by decide +kernel)
set_option maxRecDepth 20000 in
theorem wd_172 : (Cond.selects "ClauseIndex$State" ⟨"ClauseIndex$State", "clause", "(I)LClauseIndex$Clause;"⟩ ⟨"ClauseIndex$State", "clause", "(I)LClauseIndex$Clause;"⟩ : Cond) ∈ mgw := mgw_in (mtin_2 (List.mem_of_getElem? (i := 177) (by decide +kernel))) (by decide +kernel)
set_option maxRecDepth 20000 in
theorem wd_173 : (Cond.methodLink "ClauseIndex$Parting" 85 ⟨"ClauseIndex$Clause", "measure", "(II)I"⟩ : Cond) ∈ mgw := mgw_in (mtin_4 (List.mem_of_getElem? (i := 12) (by decide +kernel))) (by decide +kernel)
set_option maxRecDepth 20000 in
theorem wd_174 : (Cond.instanceMethod ⟨"ClauseIndex$Clause", "measure", "(II)I"⟩ : Cond) ∈ mgw := mgw_in (mtin_3 (List.mem_of_getElem? (i := 232) (by decide +kernel))) (by decide +kernel)
set_option maxRecDepth 20000 in
theorem wd_175 : (Cond.selects "ClauseIndex$Clause" ⟨"ClauseIndex$Clause", "measure", "(II)I"⟩ ⟨"ClauseIndex$Clause", "measure", "(II)I"⟩ : Cond) ∈ mgw := mgw_in (mtin_3 (List.mem_of_getElem? (i := 233) (by decide +kernel))) (by decide +kernel)
set_option maxRecDepth 20000 in
theorem wd_176 : (Cond.methodLink "ClauseIndex$Parting" 91 ⟨"ClauseIndex$State", "numbers", "()I"⟩ : Cond) ∈ mgw := mgw_in (mtin_4 (List.mem_of_getElem? (i := 80) (by decide +kernel))) (by decide +kernel)
set_option maxRecDepth 20000 in
theorem wd_177 : (Cond.instanceMethod ⟨"ClauseIndex$State", "numbers", "()I"⟩ : Cond) ∈ mgw := mgw_in (mtin_3 (List.mem_of_getElem? (i := 46) (by decide +kernel))) (by decide +kernel)
set_option maxRecDepth 20000 in
theorem wd_178 : (Cond.selects "ClauseIndex$State" ⟨"ClauseIndex$State", "numbers", "()I"⟩ ⟨"ClauseIndex$State", "numbers", "()I"⟩ : Cond) ∈ mgw := mgw_in (mtin_3 (List.mem_of_getElem? (i := 47) (by decide +kernel))) (by decide +kernel)
set_option maxRecDepth 20000 in
theorem wd_179 : (Cond.static ⟨"java/lang/Integer", "bitCount", "(I)I"⟩ : Cond) ∈ mgw := mgw_in (mtin_3 (List.mem_of_getElem? (i := 50) (by decide +kernel))) (by decide +kernel)
set_option maxRecDepth 20000 in
theorem wd_180 : (Cond.initialized "java/lang/Integer" : Cond) ∈ mgw := mgw_in (mtin_1 (List.mem_of_getElem? (i := 13) (by decide +kernel))) (by decide +kernel)
set_option maxRecDepth 20000 in
theorem wd_181 : (Cond.methodLink "ClauseIndex$Parting" 94 ⟨"java/lang/Integer", "bitCount", "(I)I"⟩ : Cond) ∈ mgw := mgw_in (mtin_4 (List.mem_of_getElem? (i := 86) (by decide +kernel))) (by decide +kernel)
set_option maxRecDepth 20000 in
theorem wd_182 : (Cond.methodLink "ClauseIndex$Reader" 3 ⟨"java/lang/Object", "<init>", "()V"⟩ : Cond) ∈ mgw := mgw_in (mtin_1 (List.mem_of_getElem? (i := 27) (by decide +kernel))) (by decide +kernel)
set_option maxRecDepth 20000 in
theorem wd_183 : (Cond.fieldLink "ClauseIndex$Reader" 9 "ClauseIndex$Reader" "bytes" "[I" : Cond) ∈ mgw := mgw_in (mtin_1 (List.mem_of_getElem? (i := 45) (by decide +kernel))) (by decide +kernel)
set_option maxRecDepth 20000 in
theorem wd_184 : (Cond.classLink "ClauseIndex$Reader" 15 "ClauseIndex$Draft" : Cond) ∈ mgw := mgw_in (mtin_1 (List.mem_of_getElem? (i := 28) (by decide +kernel))) (by decide +kernel)
set_option maxRecDepth 20000 in
theorem wd_185 : (Cond.instantiable "ClauseIndex$Draft" 3 : Cond) ∈ mgw := mgw_in (mtin_1 (List.mem_of_getElem? (i := 29) (by decide +kernel))) (by decide +kernel)
set_option maxRecDepth 20000 in
theorem wd_186 : (Cond.instanceMethod ⟨"ClauseIndex$Draft", "<init>", "()V"⟩ : Cond) ∈ mgw := mgw_in (mtin_1 (List.mem_of_getElem? (i := 31) (by decide +kernel))) (by decide +kernel)
theorem wn_187 : (Cond.methodLinkNest "ClauseIndex$Reader" 17 ⟨"ClauseIndex$Draft", "<init>", "()V"⟩ "ClauseIndex" : Cond) ∈ mnw_ := List.mem_filter.mpr ⟨mtin_1 (List.mem_of_getElem? (i := 30) (by decide +kernel)), rfl⟩
set_option maxRecDepth 20000 in
theorem wd_188 : (Cond.fieldLink "ClauseIndex$Reader" 18 "ClauseIndex$Reader" "draft" "LClauseIndex$Draft;" : Cond) ∈ mgw := mgw_in (mtin_1 (List.mem_of_getElem? (i := 46) (by decide +kernel))) (by decide +kernel)
set_option maxRecDepth 20000 in
theorem wd_189 : (Cond.fieldLink "ClauseIndex$Reader" 22 "ClauseIndex$Reader" "place" "I" : Cond) ∈ mgw := mgw_in (mtin_1 (List.mem_of_getElem? (i := 51) (by decide +kernel))) (by decide +kernel)
set_option maxRecDepth 20000 in
theorem wd_190 : (Cond.fieldLink "ClauseIndex$Reader" 26 "ClauseIndex$Reader" "size" "I" : Cond) ∈ mgw := mgw_in (mtin_1 (List.mem_of_getElem? (i := 47) (by decide +kernel))) (by decide +kernel)
set_option maxRecDepth 20000 in
theorem wd_191 : (Cond.fieldLink "ClauseIndex$Reader" 29 "ClauseIndex$Reader" "fault" "I" : Cond) ∈ mgw := mgw_in (mtin_1 (List.mem_of_getElem? (i := 50) (by decide +kernel))) (by decide +kernel)
set_option maxRecDepth 20000 in
theorem wd_192 : (Cond.methodLink "ClauseIndex$Reader" 32 ⟨"ClauseIndex$Reader", "begin", "(I)V"⟩ : Cond) ∈ mgw := mgw_in (mtin_2 (List.mem_of_getElem? (i := 102) (by decide +kernel))) (by decide +kernel)
set_option maxRecDepth 20000 in
theorem wd_193 : (Cond.instanceMethod ⟨"ClauseIndex$Reader", "begin", "(I)V"⟩ : Cond) ∈ mgw := mgw_in (mtin_2 (List.mem_of_getElem? (i := 104) (by decide +kernel))) (by decide +kernel)
theorem wd_194 : (Cond.selects "ClauseIndex$Reader" ⟨"ClauseIndex$Reader", "begin", "(I)V"⟩ ⟨"ClauseIndex$Reader", "begin", "(I)V"⟩ : Cond) ∈ mgw := mgw_in (List.mem_append_left _ (List.mem_of_getElem? (i := 0) (by decide +kernel))) (by decide +kernel)
set_option maxRecDepth 20000 in
theorem wd_195 : (Cond.initialized "ClauseIndex$Reader" : Cond) ∈ mgw := mgw_in (mtin_1 (List.mem_of_getElem? (i := 2) (by decide +kernel))) (by decide +kernel)
set_option maxRecDepth 20000 in
theorem wd_196 : (Cond.fieldLink "ClauseIndex$Reader" 36 "ClauseIndex$Reader" "end" "I" : Cond) ∈ mgw := mgw_in (mtin_1 (List.mem_of_getElem? (i := 48) (by decide +kernel))) (by decide +kernel)
set_option maxRecDepth 20000 in
theorem wd_197 : (Cond.methodLink "ClauseIndex$Reader" 39 ⟨"ClauseIndex$Reader", "readLiteral", "()Z"⟩ : Cond) ∈ mgw := mgw_in (mtin_2 (List.mem_of_getElem? (i := 113) (by decide +kernel))) (by decide +kernel)
set_option maxRecDepth 20000 in
theorem wd_198 : (Cond.instanceMethod ⟨"ClauseIndex$Reader", "readLiteral", "()Z"⟩ : Cond) ∈ mgw := mgw_in (mtin_2 (List.mem_of_getElem? (i := 115) (by decide +kernel))) (by decide +kernel)
theorem wd_199 : (Cond.selects "ClauseIndex$Reader" ⟨"ClauseIndex$Reader", "readLiteral", "()Z"⟩ ⟨"ClauseIndex$Reader", "readLiteral", "()Z"⟩ : Cond) ∈ mgw := mgw_in (List.mem_append_left _ (List.mem_of_getElem? (i := 1) (by decide +kernel))) (by decide +kernel)
set_option maxRecDepth 20000 in
theorem wd_200 : (Cond.fieldLink "ClauseIndex$Reader" 43 "ClauseIndex$Reader" "here" "I" : Cond) ∈ mgw := mgw_in (mtin_1 (List.mem_of_getElem? (i := 49) (by decide +kernel))) (by decide +kernel)
set_option maxRecDepth 20000 in
theorem wd_201 : (Cond.methodLink "ClauseIndex$Reader" 46 ⟨"ClauseIndex$Reader", "look", "()I"⟩ : Cond) ∈ mgw := mgw_in (mtin_2 (List.mem_of_getElem? (i := 117) (by decide +kernel))) (by decide +kernel)
set_option maxRecDepth 20000 in
theorem wd_202 : (Cond.instanceMethod ⟨"ClauseIndex$Reader", "look", "()I"⟩ : Cond) ∈ mgw := mgw_in (mtin_2 (List.mem_of_getElem? (i := 119) (by decide +kernel))) (by decide +kernel)
theorem wd_203 : (Cond.selects "ClauseIndex$Reader" ⟨"ClauseIndex$Reader", "look", "()I"⟩ ⟨"ClauseIndex$Reader", "look", "()I"⟩ : Cond) ∈ mgw := mgw_in (List.mem_append_left _ (List.mem_of_getElem? (i := 2) (by decide +kernel))) (by decide +kernel)
set_option maxRecDepth 20000 in
theorem wd_204 : (Cond.methodLink "ClauseIndex$Reader" 50 ⟨"ClauseIndex$Reader", "fail", "(I)Z"⟩ : Cond) ∈ mgw := mgw_in (mtin_2 (List.mem_of_getElem? (i := 123) (by decide +kernel))) (by decide +kernel)
set_option maxRecDepth 20000 in
theorem wd_205 : (Cond.instanceMethod ⟨"ClauseIndex$Reader", "fail", "(I)Z"⟩ : Cond) ∈ mgw := mgw_in (mtin_2 (List.mem_of_getElem? (i := 125) (by decide +kernel))) (by decide +kernel)
theorem wd_206 : (Cond.selects "ClauseIndex$Reader" ⟨"ClauseIndex$Reader", "fail", "(I)Z"⟩ ⟨"ClauseIndex$Reader", "fail", "(I)Z"⟩ : Cond) ∈ mgw := mgw_in (List.mem_append_left _ (List.mem_of_getElem? (i := 3) (by decide +kernel))) (by decide +kernel)
set_option maxRecDepth 20000 in
theorem wd_207 : (Cond.static ⟨"ClauseIndex$Reader", "termCode", "(I)I"⟩ : Cond) ∈ mgw := mgw_in (mtin_2 (List.mem_of_getElem? (i := 152) (by decide +kernel))) (by decide +kernel)
set_option maxRecDepth 20000 in
theorem wd_208 : (Cond.methodLink "ClauseIndex$Reader" 54 ⟨"ClauseIndex$Reader", "termCode", "(I)I"⟩ : Cond) ∈ mgw := mgw_in (mtin_2 (List.mem_of_getElem? (i := 151) (by decide +kernel))) (by decide +kernel)
theorem wn_209 : (Cond.methodLinkNest "ClauseIndex$Reader" 58 ⟨"ClauseIndex", "isVariable", "(I)Z"⟩ "ClauseIndex" : Cond) ∈ mnw_ := List.mem_filter.mpr ⟨mtin_2 (List.mem_of_getElem? (i := 223) (by decide +kernel)), rfl⟩
set_option maxRecDepth 20000 in
theorem wd_210 : (Cond.methodLink "ClauseIndex$Reader" 61 ⟨"ClauseIndex$Reader", "readSymbol", "(II)Z"⟩ : Cond) ∈ mgw := mgw_in (mtin_2 (List.mem_of_getElem? (i := 127) (by decide +kernel))) (by decide +kernel)
set_option maxRecDepth 20000 in
theorem wd_211 : (Cond.instanceMethod ⟨"ClauseIndex$Reader", "readSymbol", "(II)Z"⟩ : Cond) ∈ mgw := mgw_in (mtin_2 (List.mem_of_getElem? (i := 129) (by decide +kernel))) (by decide +kernel)
theorem wd_212 : (Cond.selects "ClauseIndex$Reader" ⟨"ClauseIndex$Reader", "readSymbol", "(II)Z"⟩ ⟨"ClauseIndex$Reader", "readSymbol", "(II)Z"⟩ : Cond) ∈ mgw := mgw_in (List.mem_append_left _ (List.mem_of_getElem? (i := 4) (by decide +kernel))) (by decide +kernel)
set_option maxRecDepth 20000 in
theorem wd_213 : (Cond.methodLink "ClauseIndex$Reader" 65 ⟨"ClauseIndex$Reader", "expect", "(I)Z"⟩ : Cond) ∈ mgw := mgw_in (mtin_2 (List.mem_of_getElem? (i := 143) (by decide +kernel))) (by decide +kernel)
set_option maxRecDepth 20000 in
theorem wd_214 : (Cond.instanceMethod ⟨"ClauseIndex$Reader", "expect", "(I)Z"⟩ : Cond) ∈ mgw := mgw_in (mtin_2 (List.mem_of_getElem? (i := 145) (by decide +kernel))) (by decide +kernel)
theorem wd_215 : (Cond.selects "ClauseIndex$Reader" ⟨"ClauseIndex$Reader", "expect", "(I)Z"⟩ ⟨"ClauseIndex$Reader", "expect", "(I)Z"⟩ : Cond) ∈ mgw := mgw_in (List.mem_append_left _ (List.mem_of_getElem? (i := 6) (by decide +kernel))) (by decide +kernel)
set_option maxRecDepth 20000 in
theorem wd_216 : (Cond.methodLink "ClauseIndex$Reader" 68 ⟨"ClauseIndex$Reader", "readTerm", "(I)Z"⟩ : Cond) ∈ mgw := mgw_in (mtin_2 (List.mem_of_getElem? (i := 147) (by decide +kernel))) (by decide +kernel)
set_option maxRecDepth 20000 in
theorem wd_217 : (Cond.instanceMethod ⟨"ClauseIndex$Reader", "readTerm", "(I)Z"⟩ : Cond) ∈ mgw := mgw_in (mtin_2 (List.mem_of_getElem? (i := 149) (by decide +kernel))) (by decide +kernel)
theorem wd_218 : (Cond.selects "ClauseIndex$Reader" ⟨"ClauseIndex$Reader", "readTerm", "(I)Z"⟩ ⟨"ClauseIndex$Reader", "readTerm", "(I)Z"⟩ : Cond) ∈ mgw := mgw_in (List.mem_append_left _ (List.mem_of_getElem? (i := 7) (by decide +kernel))) (by decide +kernel)
set_option maxRecDepth 20000 in
theorem wd_219 : (Cond.methodLink "ClauseIndex$Reader" 71 ⟨"java/lang/Math", "min", "(II)I"⟩ : Cond) ∈ mgw := mgw_in (mtin_2 (List.mem_of_getElem? (i := 106) (by decide +kernel))) (by decide +kernel)
set_option maxRecDepth 20000 in
theorem wd_220 : (Cond.methodLink "ClauseIndex$Reader" 77 ⟨"ClauseIndex$Draft", "empty", "()V"⟩ : Cond) ∈ mgw := mgw_in (mtin_2 (List.mem_of_getElem? (i := 109) (by decide +kernel))) (by decide +kernel)
theorem wn_221 : (Cond.fieldLinkNest "ClauseIndex$Reader" 80 "ClauseIndex" "PREDICATE_TERMS" "[I" "ClauseIndex" : Cond) ∈ mnw_ := List.mem_filter.mpr ⟨mtin_2 (List.mem_of_getElem? (i := 121) (by decide +kernel)), rfl⟩
set_option maxRecDepth 20000 in
theorem wd_222 : (Cond.methodLink "ClauseIndex$Reader" 83 ⟨"ClauseIndex$Reader", "readTerms", "(II)Z"⟩ : Cond) ∈ mgw := mgw_in (mtin_2 (List.mem_of_getElem? (i := 139) (by decide +kernel))) (by decide +kernel)
set_option maxRecDepth 20000 in
theorem wd_223 : (Cond.instanceMethod ⟨"ClauseIndex$Reader", "readTerms", "(II)Z"⟩ : Cond) ∈ mgw := mgw_in (mtin_2 (List.mem_of_getElem? (i := 141) (by decide +kernel))) (by decide +kernel)
theorem wd_224 : (Cond.selects "ClauseIndex$Reader" ⟨"ClauseIndex$Reader", "readTerms", "(II)Z"⟩ ⟨"ClauseIndex$Reader", "readTerms", "(II)Z"⟩ : Cond) ∈ mgw := mgw_in (List.mem_append_left _ (List.mem_of_getElem? (i := 5) (by decide +kernel))) (by decide +kernel)
theorem wn_225 : (Cond.methodLinkNest "ClauseIndex$Reader" 86 ⟨"ClauseIndex", "termsBehind", "(I)I"⟩ "ClauseIndex" : Cond) ∈ mnw_ := List.mem_filter.mpr ⟨mtin_2 (List.mem_of_getElem? (i := 154) (by decide +kernel)), rfl⟩
set_option maxRecDepth 20000 in
theorem wd_226 : (Cond.methodLink "ClauseIndex$Reader" 89 ⟨"ClauseIndex$Draft", "isFull", "()Z"⟩ : Cond) ∈ mgw := mgw_in (mtin_2 (List.mem_of_getElem? (i := 131) (by decide +kernel))) (by decide +kernel)
set_option maxRecDepth 20000 in
theorem wd_227 : (Cond.instanceMethod ⟨"ClauseIndex$Draft", "isFull", "()Z"⟩ : Cond) ∈ mgw := mgw_in (mtin_2 (List.mem_of_getElem? (i := 132) (by decide +kernel))) (by decide +kernel)
set_option maxRecDepth 20000 in
theorem wd_228 : (Cond.selects "ClauseIndex$Draft" ⟨"ClauseIndex$Draft", "isFull", "()Z"⟩ ⟨"ClauseIndex$Draft", "isFull", "()Z"⟩ : Cond) ∈ mgw := mgw_in (mtin_2 (List.mem_of_getElem? (i := 133) (by decide +kernel))) (by decide +kernel)
set_option maxRecDepth 20000 in
theorem wd_229 : (Cond.methodLink "ClauseIndex$Reader" 92 ⟨"ClauseIndex$Draft", "push", "(II)Z"⟩ : Cond) ∈ mgw := mgw_in (mtin_2 (List.mem_of_getElem? (i := 135) (by decide +kernel))) (by decide +kernel)
set_option maxRecDepth 20000 in
theorem wd_230 : (Cond.methodLink "ClauseIndex$Relation" 3 ⟨"java/lang/Object", "<init>", "()V"⟩ : Cond) ∈ mgw := mgw_in (mtin_1 (List.mem_of_getElem? (i := 196) (by decide +kernel))) (by decide +kernel)
set_option maxRecDepth 20000 in
theorem wd_231 : (Cond.fieldLink "ClauseIndex$Relation" 9 "ClauseIndex$Relation" "covered" "[I" : Cond) ∈ mgw := mgw_in (mtin_1 (List.mem_of_getElem? (i := 197) (by decide +kernel))) (by decide +kernel)
set_option maxRecDepth 20000 in
theorem wd_232 : (Cond.fieldLink "ClauseIndex$Relation" 15 "ClauseIndex$Relation" "coverers" "[I" : Cond) ∈ mgw := mgw_in (mtin_1 (List.mem_of_getElem? (i := 198) (by decide +kernel))) (by decide +kernel)
set_option maxRecDepth 20000 in
theorem wd_233 : (Cond.fieldLink "ClauseIndex$Relation" 18 "ClauseIndex$Relation" "lengths" "[I" : Cond) ∈ mgw := mgw_in (mtin_1 (List.mem_of_getElem? (i := 199) (by decide +kernel))) (by decide +kernel)
set_option maxRecDepth 20000 in
theorem wd_234 : (Cond.fieldLink "ClauseIndex$Relation" 21 "ClauseIndex$Relation" "row" "[I" : Cond) ∈ mgw := mgw_in (mtin_1 (List.mem_of_getElem? (i := 200) (by decide +kernel))) (by decide +kernel)
set_option maxRecDepth 20000 in
theorem wd_235 : (Cond.fieldLink "ClauseIndex$Relation" 24 "ClauseIndex$Relation" "known" "Z" : Cond) ∈ mgw := mgw_in (mtin_1 (List.mem_of_getElem? (i := 202) (by decide +kernel))) (by decide +kernel)
set_option maxRecDepth 20000 in
theorem wd_236 : (Cond.fieldLink "ClauseIndex$Relation" 28 "ClauseIndex$Relation" "all" "I" : Cond) ∈ mgw := mgw_in (mtin_1 (List.mem_of_getElem? (i := 201) (by decide +kernel))) (by decide +kernel)
set_option maxRecDepth 20000 in
theorem wd_237 : (Cond.methodLink "ClauseIndex$Relation" 32 ⟨"java/lang/Integer", "bitCount", "(I)I"⟩ : Cond) ∈ mgw := mgw_in (mtin_4 (List.mem_of_getElem? (i := 227) (by decide +kernel))) (by decide +kernel)
set_option maxRecDepth 20000 in
theorem wd_238 : (Cond.methodLink "ClauseIndex$Relation" 38 ⟨"ClauseIndex$Relation", "measureRows", "()V"⟩ : Cond) ∈ mgw := mgw_in (mtin_5 (List.mem_of_getElem? (i := 49) (by decide +kernel))) (by decide +kernel)
set_option maxRecDepth 20000 in
theorem wd_239 : (Cond.instanceMethod ⟨"ClauseIndex$Relation", "measureRows", "()V"⟩ : Cond) ∈ mgw := mgw_in (mtin_5 (List.mem_of_getElem? (i := 51) (by decide +kernel))) (by decide +kernel)
theorem wd_240 : (Cond.selects "ClauseIndex$Relation" ⟨"ClauseIndex$Relation", "measureRows", "()V"⟩ ⟨"ClauseIndex$Relation", "measureRows", "()V"⟩ : Cond) ∈ mgw := mgw_in (List.mem_append_left _ (List.mem_of_getElem? (i := 32) (by decide +kernel))) (by decide +kernel)
set_option maxRecDepth 20000 in
theorem wd_241 : (Cond.initialized "ClauseIndex$Relation" : Cond) ∈ mgw := mgw_in (mtin_1 (List.mem_of_getElem? (i := 9) (by decide +kernel))) (by decide +kernel)
set_option maxRecDepth 20000 in
theorem wd_242 : (Cond.methodLink "ClauseIndex$Relation" 41 ⟨"ClauseIndex$Relation", "firstOfLongest", "(I)I"⟩ : Cond) ∈ mgw := mgw_in (mtin_5 (List.mem_of_getElem? (i := 53) (by decide +kernel))) (by decide +kernel)
set_option maxRecDepth 20000 in
theorem wd_243 : (Cond.instanceMethod ⟨"ClauseIndex$Relation", "firstOfLongest", "(I)I"⟩ : Cond) ∈ mgw := mgw_in (mtin_5 (List.mem_of_getElem? (i := 55) (by decide +kernel))) (by decide +kernel)
theorem wd_244 : (Cond.selects "ClauseIndex$Relation" ⟨"ClauseIndex$Relation", "firstOfLongest", "(I)I"⟩ ⟨"ClauseIndex$Relation", "firstOfLongest", "(I)I"⟩ : Cond) ∈ mgw := mgw_in (List.mem_append_left _ (List.mem_of_getElem? (i := 33) (by decide +kernel))) (by decide +kernel)
set_option maxRecDepth 20000 in
theorem wd_245 : (Cond.methodLink "ClauseIndex$State" 3 ⟨"java/lang/Object", "<init>", "()V"⟩ : Cond) ∈ mgw := mgw_in (mtin_1 (List.mem_of_getElem? (i := 168) (by decide +kernel))) (by decide +kernel)
set_option maxRecDepth 20000 in
theorem wd_246 : (Cond.classLink "ClauseIndex$State" 9 "ClauseIndex$Clause" : Cond) ∈ mgw := mgw_in (mtin_1 (List.mem_of_getElem? (i := 169) (by decide +kernel))) (by decide +kernel)
set_option maxRecDepth 20000 in
theorem wd_247 : (Cond.fieldLink "ClauseIndex$State" 11 "ClauseIndex$State" "kept" "[LClauseIndex$Clause;" : Cond) ∈ mgw := mgw_in (mtin_1 (List.mem_of_getElem? (i := 171) (by decide +kernel))) (by decide +kernel)
set_option maxRecDepth 20000 in
theorem wd_248 : (Cond.fieldLink "ClauseIndex$State" 17 "ClauseIndex$State" "features" "[I" : Cond) ∈ mgw := mgw_in (mtin_1 (List.mem_of_getElem? (i := 172) (by decide +kernel))) (by decide +kernel)
set_option maxRecDepth 20000 in
theorem wd_249 : (Cond.fieldLink "ClauseIndex$State" 21 "ClauseIndex$State" "laid" "I" : Cond) ∈ mgw := mgw_in (mtin_1 (List.mem_of_getElem? (i := 173) (by decide +kernel))) (by decide +kernel)
set_option maxRecDepth 20000 in
theorem wd_250 : (Cond.methodLink "ClauseIndex$State" 25 ⟨"ClauseIndex$State", "featureAt", "(I)I"⟩ : Cond) ∈ mgw := mgw_in (mtin_2 (List.mem_of_getElem? (i := 183) (by decide +kernel))) (by decide +kernel)
set_option maxRecDepth 20000 in
theorem wd_251 : (Cond.methodLink "ClauseIndex$State" 29 ⟨"ClauseIndex$State", "append", "(I)V"⟩ : Cond) ∈ mgw := mgw_in (mtin_2 (List.mem_of_getElem? (i := 187) (by decide +kernel))) (by decide +kernel)
set_option maxRecDepth 20000 in
theorem wd_252 : (Cond.instanceMethod ⟨"ClauseIndex$State", "append", "(I)V"⟩ : Cond) ∈ mgw := mgw_in (mtin_2 (List.mem_of_getElem? (i := 188) (by decide +kernel))) (by decide +kernel)
set_option maxRecDepth 20000 in
theorem wd_253 : (Cond.selects "ClauseIndex$State" ⟨"ClauseIndex$State", "append", "(I)V"⟩ ⟨"ClauseIndex$State", "append", "(I)V"⟩ : Cond) ∈ mgw := mgw_in (mtin_2 (List.mem_of_getElem? (i := 189) (by decide +kernel))) (by decide +kernel)
set_option maxRecDepth 20000 in
theorem wd_254 : (Cond.methodLink "ClauseIndex$State" 33 ⟨"ClauseIndex$State", "clause", "(I)LClauseIndex$Clause;"⟩ : Cond) ∈ mgw := mgw_in (mtin_2 (List.mem_of_getElem? (i := 175) (by decide +kernel))) (by decide +kernel)
set_option maxRecDepth 20000 in
theorem wd_255 : (Cond.methodLink "ClauseIndex$State" 37 ⟨"ClauseIndex$State", "laid", "()I"⟩ : Cond) ∈ mgw := mgw_in (mtin_2 (List.mem_of_getElem? (i := 179) (by decide +kernel))) (by decide +kernel)
set_option maxRecDepth 20000 in
theorem wd_256 : (Cond.constant "ClauseIndex$State" 40 (1000000 : Int32) : Cond) ∈ mgw := mgw_in (mtin_4 (List.mem_of_getElem? (i := 48) (by decide +kernel))) (by decide +kernel)
set_option maxRecDepth 20000 in
theorem wd_257 : (Cond.methodLink "ClauseIndex$State" 41 ⟨"ClauseIndex$Clause", "measure", "(II)I"⟩ : Cond) ∈ mgw := mgw_in (mtin_4 (List.mem_of_getElem? (i := 49) (by decide +kernel))) (by decide +kernel)
set_option maxRecDepth 20000 in
theorem wd_258 : (Cond.methodLink "ClauseIndex$State" 45 ⟨"java/lang/Math", "min", "(II)I"⟩ : Cond) ∈ mgw := mgw_in (mtin_4 (List.mem_of_getElem? (i := 50) (by decide +kernel))) (by decide +kernel)
set_option maxRecDepth 20000 in
theorem wd_259 : (Cond.methodLink "ClauseIndex$Tree" 3 ⟨"java/lang/Object", "<init>", "()V"⟩ : Cond) ∈ mgw := mgw_in (mtin_1 (List.mem_of_getElem? (i := 106) (by decide +kernel))) (by decide +kernel)
set_option maxRecDepth 20000 in
theorem wd_260 : (Cond.fieldLink "ClauseIndex$Tree" 9 "ClauseIndex$Tree" "levels" "[I" : Cond) ∈ mgw := mgw_in (mtin_1 (List.mem_of_getElem? (i := 107) (by decide +kernel))) (by decide +kernel)
set_option maxRecDepth 20000 in
theorem wd_261 : (Cond.fieldLink "ClauseIndex$Tree" 15 "ClauseIndex$Tree" "values" "[I" : Cond) ∈ mgw := mgw_in (mtin_1 (List.mem_of_getElem? (i := 108) (by decide +kernel))) (by decide +kernel)
set_option maxRecDepth 20000 in
theorem wd_262 : (Cond.fieldLink "ClauseIndex$Tree" 18 "ClauseIndex$Tree" "children" "[I" : Cond) ∈ mgw := mgw_in (mtin_1 (List.mem_of_getElem? (i := 109) (by decide +kernel))) (by decide +kernel)
set_option maxRecDepth 20000 in
theorem wd_263 : (Cond.fieldLink "ClauseIndex$Tree" 21 "ClauseIndex$Tree" "members" "[I" : Cond) ∈ mgw := mgw_in (mtin_1 (List.mem_of_getElem? (i := 110) (by decide +kernel))) (by decide +kernel)
set_option maxRecDepth 20000 in
theorem wd_264 : (Cond.fieldLink "ClauseIndex$Tree" 24 "ClauseIndex$Tree" "size" "I" : Cond) ∈ mgw := mgw_in (mtin_1 (List.mem_of_getElem? (i := 111) (by decide +kernel))) (by decide +kernel)
set_option maxRecDepth 20000 in
theorem wd_265 : (Cond.methodLink "ClauseIndex$Tree" 28 ⟨"ClauseIndex$State", "numbers", "()I"⟩ : Cond) ∈ mgw := mgw_in (mtin_4 (List.mem_of_getElem? (i := 38) (by decide +kernel))) (by decide +kernel)
set_option maxRecDepth 20000 in
theorem wd_266 : (Cond.methodLink "ClauseIndex$Tree" 34 ⟨"ClauseIndex$Tree", "branch", "(LClauseIndex$State;III)V"⟩ : Cond) ∈ mgw := mgw_in (mtin_4 (List.mem_of_getElem? (i := 39) (by decide +kernel))) (by decide +kernel)
set_option maxRecDepth 20000 in
theorem wd_267 : (Cond.instanceMethod ⟨"ClauseIndex$Tree", "branch", "(LClauseIndex$State;III)V"⟩ : Cond) ∈ mgw := mgw_in (mtin_4 (List.mem_of_getElem? (i := 41) (by decide +kernel))) (by decide +kernel)
theorem wd_268 : (Cond.selects "ClauseIndex$Tree" ⟨"ClauseIndex$Tree", "branch", "(LClauseIndex$State;III)V"⟩ ⟨"ClauseIndex$Tree", "branch", "(LClauseIndex$State;III)V"⟩ : Cond) ∈ mgw := mgw_in (List.mem_append_left _ (List.mem_of_getElem? (i := 23) (by decide +kernel))) (by decide +kernel)
set_option maxRecDepth 20000 in
theorem wd_269 : (Cond.initialized "ClauseIndex$Tree" : Cond) ∈ mgw := mgw_in (mtin_1 (List.mem_of_getElem? (i := 5) (by decide +kernel))) (by decide +kernel)
set_option maxRecDepth 20000 in
theorem wd_270 : (Cond.methodLink "ClauseIndex$Tree" 38 ⟨"ClauseIndex$State", "featureAt", "(I)I"⟩ : Cond) ∈ mgw := mgw_in (mtin_4 (List.mem_of_getElem? (i := 43) (by decide +kernel))) (by decide +kernel)
set_option maxRecDepth 20000 in
theorem wd_271 : (Cond.methodLink "ClauseIndex$Tree" 42 ⟨"ClauseIndex$State", "leastOf", "(II)I"⟩ : Cond) ∈ mgw := mgw_in (mtin_4 (List.mem_of_getElem? (i := 44) (by decide +kernel))) (by decide +kernel)
set_option maxRecDepth 20000 in
theorem wd_272 : (Cond.instanceMethod ⟨"ClauseIndex$State", "leastOf", "(II)I"⟩ : Cond) ∈ mgw := mgw_in (mtin_4 (List.mem_of_getElem? (i := 45) (by decide +kernel))) (by decide +kernel)
set_option maxRecDepth 20000 in
theorem wd_273 : (Cond.selects "ClauseIndex$State" ⟨"ClauseIndex$State", "leastOf", "(II)I"⟩ ⟨"ClauseIndex$State", "leastOf", "(II)I"⟩ : Cond) ∈ mgw := mgw_in (mtin_4 (List.mem_of_getElem? (i := 46) (by decide +kernel))) (by decide +kernel)
set_option maxRecDepth 20000 in
theorem wd_274 : (Cond.methodLink "ClauseIndex$Tree" 46 ⟨"ClauseIndex$State", "having", "(III)I"⟩ : Cond) ∈ mgw := mgw_in (mtin_4 (List.mem_of_getElem? (i := 51) (by decide +kernel))) (by decide +kernel)
set_option maxRecDepth 20000 in
theorem wd_275 : (Cond.instanceMethod ⟨"ClauseIndex$State", "having", "(III)I"⟩ : Cond) ∈ mgw := mgw_in (mtin_4 (List.mem_of_getElem? (i := 52) (by decide +kernel))) (by decide +kernel)
set_option maxRecDepth 20000 in
theorem wd_276 : (Cond.selects "ClauseIndex$State" ⟨"ClauseIndex$State", "having", "(III)I"⟩ ⟨"ClauseIndex$State", "having", "(III)I"⟩ : Cond) ∈ mgw := mgw_in (mtin_4 (List.mem_of_getElem? (i := 53) (by decide +kernel))) (by decide +kernel)
set_option maxRecDepth 20000 in
theorem wd_277 : (Cond.methodLink "ClauseIndex$Tree" 50 ⟨"ClauseIndex$Tree", "levelOf", "(I)I"⟩ : Cond) ∈ mgw := mgw_in (mtin_4 (List.mem_of_getElem? (i := 149) (by decide +kernel))) (by decide +kernel)
set_option maxRecDepth 20000 in
theorem wd_278 : (Cond.instanceMethod ⟨"ClauseIndex$Tree", "levelOf", "(I)I"⟩ : Cond) ∈ mgw := mgw_in (mtin_4 (List.mem_of_getElem? (i := 126) (by decide +kernel))) (by decide +kernel)
set_option maxRecDepth 20000 in
theorem wd_279 : (Cond.selects "ClauseIndex$Tree" ⟨"ClauseIndex$Tree", "levelOf", "(I)I"⟩ ⟨"ClauseIndex$Tree", "levelOf", "(I)I"⟩ : Cond) ∈ mgw := mgw_in (mtin_4 (List.mem_of_getElem? (i := 127) (by decide +kernel))) (by decide +kernel)
set_option maxRecDepth 20000 in
theorem wd_280 : (Cond.methodLink "ClauseIndex$Tree" 53 ⟨"ClauseIndex$Tree", "membersOf", "(I)I"⟩ : Cond) ∈ mgw := mgw_in (mtin_4 (List.mem_of_getElem? (i := 150) (by decide +kernel))) (by decide +kernel)
set_option maxRecDepth 20000 in
theorem wd_281 : (Cond.instanceMethod ⟨"ClauseIndex$Tree", "membersOf", "(I)I"⟩ : Cond) ∈ mgw := mgw_in (mtin_4 (List.mem_of_getElem? (i := 138) (by decide +kernel))) (by decide +kernel)
set_option maxRecDepth 20000 in
theorem wd_282 : (Cond.selects "ClauseIndex$Tree" ⟨"ClauseIndex$Tree", "membersOf", "(I)I"⟩ ⟨"ClauseIndex$Tree", "membersOf", "(I)I"⟩ : Cond) ∈ mgw := mgw_in (mtin_4 (List.mem_of_getElem? (i := 139) (by decide +kernel))) (by decide +kernel)
set_option maxRecDepth 20000 in
theorem wd_283 : (Cond.fieldLink "ClauseIndex$Tree" 56 "ClauseIndex$Tree" "reached" "I" : Cond) ∈ mgw := mgw_in (mtin_1 (List.mem_of_getElem? (i := 112) (by decide +kernel))) (by decide +kernel)
set_option maxRecDepth 20000 in
theorem wd_284 : (Cond.methodLink "ClauseIndex$Tree" 59 ⟨"ClauseIndex$Tree", "passes", "(IILClauseIndex$Clause;II)Z"⟩ : Cond) ∈ mgw := mgw_in (mtin_4 (List.mem_of_getElem? (i := 177) (by decide +kernel))) (by decide +kernel)
set_option maxRecDepth 20000 in
theorem wd_285 : (Cond.instanceMethod ⟨"ClauseIndex$Tree", "passes", "(IILClauseIndex$Clause;II)Z"⟩ : Cond) ∈ mgw := mgw_in (mtin_4 (List.mem_of_getElem? (i := 179) (by decide +kernel))) (by decide +kernel)
theorem wd_286 : (Cond.selects "ClauseIndex$Tree" ⟨"ClauseIndex$Tree", "passes", "(IILClauseIndex$Clause;II)Z"⟩ ⟨"ClauseIndex$Tree", "passes", "(IILClauseIndex$Clause;II)Z"⟩ : Cond) ∈ mgw := mgw_in (List.mem_append_left _ (List.mem_of_getElem? (i := 30) (by decide +kernel))) (by decide +kernel)
set_option maxRecDepth 20000 in
theorem wd_287 : (Cond.methodLink "ClauseIndex$Tree" 63 ⟨"ClauseIndex$State", "laid", "()I"⟩ : Cond) ∈ mgw := mgw_in (mtin_4 (List.mem_of_getElem? (i := 184) (by decide +kernel))) (by decide +kernel)
set_option maxRecDepth 20000 in
theorem wd_288 : (Cond.methodLink "ClauseIndex$Tree" 66 ⟨"ClauseIndex$Tree", "valueOf", "(I)I"⟩ : Cond) ∈ mgw := mgw_in (mtin_4 (List.mem_of_getElem? (i := 181) (by decide +kernel))) (by decide +kernel)
set_option maxRecDepth 20000 in
theorem wd_289 : (Cond.instanceMethod ⟨"ClauseIndex$Tree", "valueOf", "(I)I"⟩ : Cond) ∈ mgw := mgw_in (mtin_4 (List.mem_of_getElem? (i := 130) (by decide +kernel))) (by decide +kernel)
set_option maxRecDepth 20000 in
theorem wd_290 : (Cond.selects "ClauseIndex$Tree" ⟨"ClauseIndex$Tree", "valueOf", "(I)I"⟩ ⟨"ClauseIndex$Tree", "valueOf", "(I)I"⟩ : Cond) ∈ mgw := mgw_in (mtin_4 (List.mem_of_getElem? (i := 131) (by decide +kernel))) (by decide +kernel)
theorem wn_291 : (Cond.methodLinkNest "ClauseIndex$Tree" 69 ⟨"ClauseIndex", "byMode", "(III)I"⟩ "ClauseIndex" : Cond) ∈ mnw_ := List.mem_filter.mpr ⟨mtin_4 (List.mem_of_getElem? (i := 182) (by decide +kernel)), rfl⟩
set_option maxRecDepth 20000 in
theorem wd_292 : (Cond.methodLink "ClauseIndex$Tree" 72 ⟨"ClauseIndex$Clause", "measure", "(II)I"⟩ : Cond) ∈ mgw := mgw_in (mtin_4 (List.mem_of_getElem? (i := 183) (by decide +kernel))) (by decide +kernel)
set_option maxRecDepth 20000 in
theorem wd_293 : (Cond.methodLink "ClauseIndex" 3 ⟨"java/lang/Object", "<init>", "()V"⟩ : Cond) ∈ mgw := mgw_in (mtin_1 (List.mem_of_getElem? (i := 19) (by decide +kernel))) (by decide +kernel)
set_option maxRecDepth 20000 in
theorem wd_294 : (Cond.classLink "ClauseIndex" 9 "ClauseIndex$Reader" : Cond) ∈ mgw := mgw_in (mtin_1 (List.mem_of_getElem? (i := 22) (by decide +kernel))) (by decide +kernel)
set_option maxRecDepth 20000 in
theorem wd_295 : (Cond.instantiable "ClauseIndex$Reader" 7 : Cond) ∈ mgw := mgw_in (mtin_1 (List.mem_of_getElem? (i := 23) (by decide +kernel))) (by decide +kernel)
set_option maxRecDepth 20000 in
theorem wd_296 : (Cond.instanceMethod ⟨"ClauseIndex$Reader", "<init>", "()V"⟩ : Cond) ∈ mgw := mgw_in (mtin_1 (List.mem_of_getElem? (i := 25) (by decide +kernel))) (by decide +kernel)
theorem wn_297 : (Cond.methodLinkNest "ClauseIndex" 11 ⟨"ClauseIndex$Reader", "<init>", "()V"⟩ "ClauseIndex" : Cond) ∈ mnw_ := List.mem_filter.mpr ⟨mtin_1 (List.mem_of_getElem? (i := 24) (by decide +kernel)), rfl⟩
set_option maxRecDepth 20000 in
theorem wd_298 : (Cond.fieldLink "ClauseIndex" 12 "ClauseIndex" "reader" "LClauseIndex$Reader;" : Cond) ∈ mgw := mgw_in (mtin_2 (List.mem_of_getElem? (i := 35) (by decide +kernel))) (by decide +kernel)
set_option maxRecDepth 20000 in
theorem wd_299 : (Cond.classLink "ClauseIndex" 16 "ClauseIndex$Matcher" : Cond) ∈ mgw := mgw_in (mtin_1 (List.mem_of_getElem? (i := 67) (by decide +kernel))) (by decide +kernel)
set_option maxRecDepth 20000 in
theorem wd_300 : (Cond.instantiable "ClauseIndex$Matcher" 9 : Cond) ∈ mgw := mgw_in (mtin_1 (List.mem_of_getElem? (i := 68) (by decide +kernel))) (by decide +kernel)
set_option maxRecDepth 20000 in
theorem wd_301 : (Cond.instanceMethod ⟨"ClauseIndex$Matcher", "<init>", "()V"⟩ : Cond) ∈ mgw := mgw_in (mtin_1 (List.mem_of_getElem? (i := 70) (by decide +kernel))) (by decide +kernel)
theorem wn_302 : (Cond.methodLinkNest "ClauseIndex" 18 ⟨"ClauseIndex$Matcher", "<init>", "()V"⟩ "ClauseIndex" : Cond) ∈ mnw_ := List.mem_filter.mpr ⟨mtin_1 (List.mem_of_getElem? (i := 69) (by decide +kernel)), rfl⟩
set_option maxRecDepth 20000 in
theorem wd_303 : (Cond.fieldLink "ClauseIndex" 19 "ClauseIndex" "matcher" "LClauseIndex$Matcher;" : Cond) ∈ mgw := mgw_in (mtin_2 (List.mem_of_getElem? (i := 36) (by decide +kernel))) (by decide +kernel)
set_option maxRecDepth 20000 in
theorem wd_304 : (Cond.classLink "ClauseIndex" 23 "ClauseIndex$Tree" : Cond) ∈ mgw := mgw_in (mtin_1 (List.mem_of_getElem? (i := 101) (by decide +kernel))) (by decide +kernel)
set_option maxRecDepth 20000 in
theorem wd_305 : (Cond.instantiable "ClauseIndex$Tree" 6 : Cond) ∈ mgw := mgw_in (mtin_1 (List.mem_of_getElem? (i := 102) (by decide +kernel))) (by decide +kernel)
set_option maxRecDepth 20000 in
theorem wd_306 : (Cond.instanceMethod ⟨"ClauseIndex$Tree", "<init>", "()V"⟩ : Cond) ∈ mgw := mgw_in (mtin_1 (List.mem_of_getElem? (i := 104) (by decide +kernel))) (by decide +kernel)
theorem wn_307 : (Cond.methodLinkNest "ClauseIndex" 25 ⟨"ClauseIndex$Tree", "<init>", "()V"⟩ "ClauseIndex" : Cond) ∈ mnw_ := List.mem_filter.mpr ⟨mtin_1 (List.mem_of_getElem? (i := 103) (by decide +kernel)), rfl⟩
set_option maxRecDepth 20000 in
theorem wd_308 : (Cond.fieldLink "ClauseIndex" 26 "ClauseIndex" "tree" "LClauseIndex$Tree;" : Cond) ∈ mgw := mgw_in (mtin_2 (List.mem_of_getElem? (i := 37) (by decide +kernel))) (by decide +kernel)
set_option maxRecDepth 20000 in
theorem wd_309 : (Cond.classLink "ClauseIndex" 30 "ClauseIndex$Parting" : Cond) ∈ mgw := mgw_in (mtin_1 (List.mem_of_getElem? (i := 126) (by decide +kernel))) (by decide +kernel)
set_option maxRecDepth 20000 in
theorem wd_310 : (Cond.instantiable "ClauseIndex$Parting" 7 : Cond) ∈ mgw := mgw_in (mtin_1 (List.mem_of_getElem? (i := 127) (by decide +kernel))) (by decide +kernel)
set_option maxRecDepth 20000 in
theorem wd_311 : (Cond.instanceMethod ⟨"ClauseIndex$Parting", "<init>", "()V"⟩ : Cond) ∈ mgw := mgw_in (mtin_1 (List.mem_of_getElem? (i := 129) (by decide +kernel))) (by decide +kernel)
theorem wn_312 : (Cond.methodLinkNest "ClauseIndex" 32 ⟨"ClauseIndex$Parting", "<init>", "()V"⟩ "ClauseIndex" : Cond) ∈ mnw_ := List.mem_filter.mpr ⟨mtin_1 (List.mem_of_getElem? (i := 128) (by decide +kernel)), rfl⟩
set_option maxRecDepth 20000 in
theorem wd_313 : (Cond.fieldLink "ClauseIndex" 33 "ClauseIndex" "parting" "LClauseIndex$Parting;" : Cond) ∈ mgw := mgw_in (mtin_2 (List.mem_of_getElem? (i := 38) (by decide +kernel))) (by decide +kernel)
set_option maxRecDepth 20000 in
theorem wd_314 : (Cond.classLink "ClauseIndex" 37 "ClauseIndex$History" : Cond) ∈ mgw := mgw_in (mtin_1 (List.mem_of_getElem? (i := 156) (by decide +kernel))) (by decide +kernel)
set_option maxRecDepth 20000 in
theorem wd_315 : (Cond.instantiable "ClauseIndex$History" 3 : Cond) ∈ mgw := mgw_in (mtin_1 (List.mem_of_getElem? (i := 157) (by decide +kernel))) (by decide +kernel)
set_option maxRecDepth 20000 in
theorem wd_316 : (Cond.initialized "ClauseIndex$History" : Cond) ∈ mgw := mgw_in (mtin_1 (List.mem_of_getElem? (i := 7) (by decide +kernel))) (by decide +kernel)
set_option maxRecDepth 20000 in
theorem wd_317 : (Cond.instanceMethod ⟨"ClauseIndex$History", "<init>", "()V"⟩ : Cond) ∈ mgw := mgw_in (mtin_1 (List.mem_of_getElem? (i := 159) (by decide +kernel))) (by decide +kernel)
set_option maxRecDepth 20000 in
theorem wd_318 : (Cond.methodLink "ClauseIndex" 39 ⟨"ClauseIndex$History", "<init>", "()V"⟩ : Cond) ∈ mgw := mgw_in (mtin_1 (List.mem_of_getElem? (i := 158) (by decide +kernel))) (by decide +kernel)
set_option maxRecDepth 20000 in
theorem wd_319 : (Cond.fieldLink "ClauseIndex" 40 "ClauseIndex" "history" "LClauseIndex$History;" : Cond) ∈ mgw := mgw_in (mtin_2 (List.mem_of_getElem? (i := 39) (by decide +kernel))) (by decide +kernel)
set_option maxRecDepth 20000 in
theorem wd_320 : (Cond.classLink "ClauseIndex" 44 "ClauseIndex$Relation" : Cond) ∈ mgw := mgw_in (mtin_1 (List.mem_of_getElem? (i := 191) (by decide +kernel))) (by decide +kernel)
set_option maxRecDepth 20000 in
theorem wd_321 : (Cond.instantiable "ClauseIndex$Relation" 6 : Cond) ∈ mgw := mgw_in (mtin_1 (List.mem_of_getElem? (i := 192) (by decide +kernel))) (by decide +kernel)
set_option maxRecDepth 20000 in
theorem wd_322 : (Cond.instanceMethod ⟨"ClauseIndex$Relation", "<init>", "()V"⟩ : Cond) ∈ mgw := mgw_in (mtin_1 (List.mem_of_getElem? (i := 194) (by decide +kernel))) (by decide +kernel)
theorem wn_323 : (Cond.methodLinkNest "ClauseIndex" 46 ⟨"ClauseIndex$Relation", "<init>", "()V"⟩ "ClauseIndex" : Cond) ∈ mnw_ := List.mem_filter.mpr ⟨mtin_1 (List.mem_of_getElem? (i := 193) (by decide +kernel)), rfl⟩
set_option maxRecDepth 20000 in
theorem wd_324 : (Cond.fieldLink "ClauseIndex" 47 "ClauseIndex" "bySets" "LClauseIndex$Relation;" : Cond) ∈ mgw := mgw_in (mtin_2 (List.mem_of_getElem? (i := 40) (by decide +kernel))) (by decide +kernel)
set_option maxRecDepth 20000 in
theorem wd_325 : (Cond.fieldLink "ClauseIndex" 51 "ClauseIndex" "byNumbers" "LClauseIndex$Relation;" : Cond) ∈ mgw := mgw_in (mtin_2 (List.mem_of_getElem? (i := 41) (by decide +kernel))) (by decide +kernel)
set_option maxRecDepth 20000 in
theorem wd_326 : (Cond.classLink "ClauseIndex" 54 "ClauseIndex$State" : Cond) ∈ mgw := mgw_in (mtin_1 (List.mem_of_getElem? (i := 216) (by decide +kernel))) (by decide +kernel)
theorem wn_327 : (Cond.methodLinkNest "ClauseIndex" 56 ⟨"ClauseIndex$State", "<init>", "()V"⟩ "ClauseIndex" : Cond) ∈ mnw_ := List.mem_filter.mpr ⟨mtin_1 (List.mem_of_getElem? (i := 217) (by decide +kernel)), rfl⟩
set_option maxRecDepth 20000 in
theorem wd_328 : (Cond.fieldLink "ClauseIndex" 57 "ClauseIndex" "now" "LClauseIndex$State;" : Cond) ∈ mgw := mgw_in (mtin_2 (List.mem_of_getElem? (i := 42) (by decide +kernel))) (by decide +kernel)
set_option maxRecDepth 20000 in
theorem wd_329 : (Cond.fieldLink "ClauseIndex" 61 "ClauseIndex" "pictures" "[LClauseIndex$State;" : Cond) ∈ mgw := mgw_in (mtin_2 (List.mem_of_getElem? (i := 43) (by decide +kernel))) (by decide +kernel)
set_option maxRecDepth 20000 in
theorem wd_330 : (Cond.classLink "ClauseIndex" 65 "ClauseIndex$Clause" : Cond) ∈ mgw := mgw_in (mtin_1 (List.mem_of_getElem? (i := 218) (by decide +kernel))) (by decide +kernel)
set_option maxRecDepth 20000 in
theorem wd_331 : (Cond.fieldLink "ClauseIndex" 67 "ClauseIndex" "picturedQueries" "[LClauseIndex$Clause;" : Cond) ∈ mgw := mgw_in (mtin_2 (List.mem_of_getElem? (i := 44) (by decide +kernel))) (by decide +kernel)
set_option maxRecDepth 20000 in
theorem wd_332 : (Cond.fieldLink "ClauseIndex" 71 "ClauseIndex" "wanted" "[I" : Cond) ∈ mgw := mgw_in (mtin_2 (List.mem_of_getElem? (i := 45) (by decide +kernel))) (by decide +kernel)
set_option maxRecDepth 20000 in
theorem wd_333 : (Cond.classLink "ClauseIndex" 75 "ClauseIndex$Draft" : Cond) ∈ mgw := mgw_in (mtin_1 (List.mem_of_getElem? (i := 219) (by decide +kernel))) (by decide +kernel)
theorem wn_334 : (Cond.methodLinkNest "ClauseIndex" 77 ⟨"ClauseIndex$Draft", "<init>", "()V"⟩ "ClauseIndex" : Cond) ∈ mnw_ := List.mem_filter.mpr ⟨mtin_1 (List.mem_of_getElem? (i := 220) (by decide +kernel)), rfl⟩
set_option maxRecDepth 20000 in
theorem wd_335 : (Cond.fieldLink "ClauseIndex" 78 "ClauseIndex" "work" "LClauseIndex$Draft;" : Cond) ∈ mgw := mgw_in (mtin_2 (List.mem_of_getElem? (i := 46) (by decide +kernel))) (by decide +kernel)
set_option maxRecDepth 20000 in
theorem wd_336 : (Cond.fieldLink "ClauseIndex" 82 "ClauseIndex" "spare" "LClauseIndex$Draft;" : Cond) ∈ mgw := mgw_in (mtin_2 (List.mem_of_getElem? (i := 47) (by decide +kernel))) (by decide +kernel)
set_option maxRecDepth 20000 in
theorem wd_337 : (Cond.instantiable "ClauseIndex$Clause" 5 : Cond) ∈ mgw := mgw_in (mtin_1 (List.mem_of_getElem? (i := 221) (by decide +kernel))) (by decide +kernel)
set_option maxRecDepth 20000 in
theorem wd_338 : (Cond.instanceMethod ⟨"ClauseIndex$Clause", "<init>", "(LClauseIndex$Draft;)V"⟩ : Cond) ∈ mgw := mgw_in (mtin_1 (List.mem_of_getElem? (i := 223) (by decide +kernel))) (by decide +kernel)
set_option maxRecDepth 20000 in
theorem wd_339 : (Cond.methodLink "ClauseIndex" 85 ⟨"ClauseIndex$Clause", "<init>", "(LClauseIndex$Draft;)V"⟩ : Cond) ∈ mgw := mgw_in (mtin_1 (List.mem_of_getElem? (i := 222) (by decide +kernel))) (by decide +kernel)
set_option maxRecDepth 20000 in
theorem wd_340 : (Cond.fieldLink "ClauseIndex" 88 "ClauseIndex" "asked" "LClauseIndex$Clause;" : Cond) ∈ mgw := mgw_in (mtin_2 (List.mem_of_getElem? (i := 48) (by decide +kernel))) (by decide +kernel)
set_option maxRecDepth 20000 in
theorem wd_341 : (Cond.methodLink "ClauseIndex" 92 ⟨"ClauseIndex$Reader", "onTape", "()I"⟩ : Cond) ∈ mgw := mgw_in (mtin_2 (List.mem_of_getElem? (i := 82) (by decide +kernel))) (by decide +kernel)
set_option maxRecDepth 20000 in
theorem wd_342 : (Cond.instanceMethod ⟨"ClauseIndex$Reader", "onTape", "()I"⟩ : Cond) ∈ mgw := mgw_in (mtin_2 (List.mem_of_getElem? (i := 83) (by decide +kernel))) (by decide +kernel)
set_option maxRecDepth 20000 in
theorem wd_343 : (Cond.selects "ClauseIndex$Reader" ⟨"ClauseIndex$Reader", "onTape", "()I"⟩ ⟨"ClauseIndex$Reader", "onTape", "()I"⟩ : Cond) ∈ mgw := mgw_in (mtin_2 (List.mem_of_getElem? (i := 84) (by decide +kernel))) (by decide +kernel)
set_option maxRecDepth 20000 in
theorem wd_344 : (Cond.methodLink "ClauseIndex" 96 ⟨"ClauseIndex$Reader", "putWord", "(I)V"⟩ : Cond) ∈ mgw := mgw_in (mtin_2 (List.mem_of_getElem? (i := 86) (by decide +kernel))) (by decide +kernel)
set_option maxRecDepth 20000 in
theorem wd_345 : (Cond.instanceMethod ⟨"ClauseIndex$Reader", "putWord", "(I)V"⟩ : Cond) ∈ mgw := mgw_in (mtin_2 (List.mem_of_getElem? (i := 87) (by decide +kernel))) (by decide +kernel)
set_option maxRecDepth 20000 in
theorem wd_346 : (Cond.selects "ClauseIndex$Reader" ⟨"ClauseIndex$Reader", "putWord", "(I)V"⟩ ⟨"ClauseIndex$Reader", "putWord", "(I)V"⟩ : Cond) ∈ mgw := mgw_in (mtin_2 (List.mem_of_getElem? (i := 88) (by decide +kernel))) (by decide +kernel)
set_option maxRecDepth 20000 in
theorem wd_347 : (Cond.methodLink "ClauseIndex" 100 ⟨"ClauseIndex$State", "lowestFree", "()I"⟩ : Cond) ∈ mgw := mgw_in (mtin_2 (List.mem_of_getElem? (i := 94) (by decide +kernel))) (by decide +kernel)
set_option maxRecDepth 20000 in
theorem wd_348 : (Cond.instanceMethod ⟨"ClauseIndex$State", "lowestFree", "()I"⟩ : Cond) ∈ mgw := mgw_in (mtin_2 (List.mem_of_getElem? (i := 95) (by decide +kernel))) (by decide +kernel)
set_option maxRecDepth 20000 in
theorem wd_349 : (Cond.selects "ClauseIndex$State" ⟨"ClauseIndex$State", "lowestFree", "()I"⟩ ⟨"ClauseIndex$State", "lowestFree", "()I"⟩ : Cond) ∈ mgw := mgw_in (mtin_2 (List.mem_of_getElem? (i := 96) (by decide +kernel))) (by decide +kernel)
set_option maxRecDepth 20000 in
theorem wd_350 : (Cond.methodLink "ClauseIndex" 103 ⟨"ClauseIndex$Reader", "readClause", "(I)Z"⟩ : Cond) ∈ mgw := mgw_in (mtin_2 (List.mem_of_getElem? (i := 98) (by decide +kernel))) (by decide +kernel)
set_option maxRecDepth 20000 in
theorem wd_351 : (Cond.instanceMethod ⟨"ClauseIndex$Reader", "readClause", "(I)Z"⟩ : Cond) ∈ mgw := mgw_in (mtin_2 (List.mem_of_getElem? (i := 99) (by decide +kernel))) (by decide +kernel)
set_option maxRecDepth 20000 in
theorem wd_352 : (Cond.selects "ClauseIndex$Reader" ⟨"ClauseIndex$Reader", "readClause", "(I)Z"⟩ ⟨"ClauseIndex$Reader", "readClause", "(I)Z"⟩ : Cond) ∈ mgw := mgw_in (mtin_2 (List.mem_of_getElem? (i := 100) (by decide +kernel))) (by decide +kernel)
set_option maxRecDepth 20000 in
theorem wd_353 : (Cond.methodLink "ClauseIndex" 107 ⟨"ClauseIndex$Reader", "latestFault", "()I"⟩ : Cond) ∈ mgw := mgw_in (mtin_2 (List.mem_of_getElem? (i := 155) (by decide +kernel))) (by decide +kernel)
set_option maxRecDepth 20000 in
theorem wd_354 : (Cond.instanceMethod ⟨"ClauseIndex$Reader", "latestFault", "()I"⟩ : Cond) ∈ mgw := mgw_in (mtin_2 (List.mem_of_getElem? (i := 156) (by decide +kernel))) (by decide +kernel)
set_option maxRecDepth 20000 in
theorem wd_355 : (Cond.selects "ClauseIndex$Reader" ⟨"ClauseIndex$Reader", "latestFault", "()I"⟩ ⟨"ClauseIndex$Reader", "latestFault", "()I"⟩ : Cond) ∈ mgw := mgw_in (mtin_2 (List.mem_of_getElem? (i := 157) (by decide +kernel))) (by decide +kernel)
set_option maxRecDepth 20000 in
theorem wd_356 : (Cond.methodLink "ClauseIndex" 110 ⟨"ClauseIndex$Reader", "symbolsRead", "()LClauseIndex$Draft;"⟩ : Cond) ∈ mgw := mgw_in (mtin_2 (List.mem_of_getElem? (i := 159) (by decide +kernel))) (by decide +kernel)
set_option maxRecDepth 20000 in
theorem wd_357 : (Cond.instanceMethod ⟨"ClauseIndex$Reader", "symbolsRead", "()LClauseIndex$Draft;"⟩ : Cond) ∈ mgw := mgw_in (mtin_2 (List.mem_of_getElem? (i := 160) (by decide +kernel))) (by decide +kernel)
set_option maxRecDepth 20000 in
theorem wd_358 : (Cond.selects "ClauseIndex$Reader" ⟨"ClauseIndex$Reader", "symbolsRead", "()LClauseIndex$Draft;"⟩ ⟨"ClauseIndex$Reader", "symbolsRead", "()LClauseIndex$Draft;"⟩ : Cond) ∈ mgw := mgw_in (mtin_2 (List.mem_of_getElem? (i := 161) (by decide +kernel))) (by decide +kernel)
set_option maxRecDepth 20000 in
theorem wd_359 : (Cond.methodLink "ClauseIndex" 114 ⟨"ClauseIndex", "change", "(ILClauseIndex$Clause;)V"⟩ : Cond) ∈ mgw := mgw_in (mtin_2 (List.mem_of_getElem? (i := 163) (by decide +kernel))) (by decide +kernel)
set_option maxRecDepth 20000 in
theorem wd_360 : (Cond.instanceMethod ⟨"ClauseIndex", "change", "(ILClauseIndex$Clause;)V"⟩ : Cond) ∈ mgw := mgw_in (mtin_2 (List.mem_of_getElem? (i := 165) (by decide +kernel))) (by decide +kernel)
theorem wd_361 : (Cond.selects "ClauseIndex" ⟨"ClauseIndex", "change", "(ILClauseIndex$Clause;)V"⟩ ⟨"ClauseIndex", "change", "(ILClauseIndex$Clause;)V"⟩ : Cond) ∈ mgw := mgw_in (List.mem_append_left _ (List.mem_of_getElem? (i := 8) (by decide +kernel))) (by decide +kernel)
set_option maxRecDepth 20000 in
theorem wd_362 : (Cond.methodLink "ClauseIndex" 118 ⟨"ClauseIndex$Clause", "size", "()I"⟩ : Cond) ∈ mgw := mgw_in (mtin_2 (List.mem_of_getElem? (i := 211) (by decide +kernel))) (by decide +kernel)
set_option maxRecDepth 20000 in
theorem wd_363 : (Cond.methodLink "ClauseIndex" 121 ⟨"ClauseIndex$Reader", "readPut", "(I)Z"⟩ : Cond) ∈ mgw := mgw_in (mtin_2 (List.mem_of_getElem? (i := 219) (by decide +kernel))) (by decide +kernel)
set_option maxRecDepth 20000 in
theorem wd_364 : (Cond.instanceMethod ⟨"ClauseIndex$Reader", "readPut", "(I)Z"⟩ : Cond) ∈ mgw := mgw_in (mtin_2 (List.mem_of_getElem? (i := 220) (by decide +kernel))) (by decide +kernel)
set_option maxRecDepth 20000 in
theorem wd_365 : (Cond.selects "ClauseIndex$Reader" ⟨"ClauseIndex$Reader", "readPut", "(I)Z"⟩ ⟨"ClauseIndex$Reader", "readPut", "(I)Z"⟩ : Cond) ∈ mgw := mgw_in (mtin_2 (List.mem_of_getElem? (i := 221) (by decide +kernel))) (by decide +kernel)
set_option maxRecDepth 20000 in
theorem wd_366 : (Cond.methodLink "ClauseIndex" 124 ⟨"ClauseIndex$Draft", "codeAt", "(I)I"⟩ : Cond) ∈ mgw := mgw_in (mtin_2 (List.mem_of_getElem? (i := 226) (by decide +kernel))) (by decide +kernel)
set_option maxRecDepth 20000 in
theorem wd_367 : (Cond.methodLink "ClauseIndex" 128 ⟨"ClauseIndex$Draft", "load", "(LClauseIndex$Clause;)V"⟩ : Cond) ∈ mgw := mgw_in (mtin_2 (List.mem_of_getElem? (i := 227) (by decide +kernel))) (by decide +kernel)
set_option maxRecDepth 20000 in
theorem wd_368 : (Cond.instanceMethod ⟨"ClauseIndex$Draft", "load", "(LClauseIndex$Clause;)V"⟩ : Cond) ∈ mgw := mgw_in (mtin_2 (List.mem_of_getElem? (i := 228) (by decide +kernel))) (by decide +kernel)
set_option maxRecDepth 20000 in
theorem wd_369 : (Cond.selects "ClauseIndex$Draft" ⟨"ClauseIndex$Draft", "load", "(LClauseIndex$Clause;)V"⟩ ⟨"ClauseIndex$Draft", "load", "(LClauseIndex$Clause;)V"⟩ : Cond) ∈ mgw := mgw_in (mtin_2 (List.mem_of_getElem? (i := 229) (by decide +kernel))) (by decide +kernel)
set_option maxRecDepth 20000 in
theorem wd_370 : (Cond.methodLink "ClauseIndex" 132 ⟨"ClauseIndex$Draft", "size", "()I"⟩ : Cond) ∈ mgw := mgw_in (mtin_3 (List.mem_of_getElem? (i := 5) (by decide +kernel))) (by decide +kernel)
set_option maxRecDepth 20000 in
theorem wd_371 : (Cond.methodLink "ClauseIndex" 133 ⟨"ClauseIndex$Draft", "times", "(III)I"⟩ : Cond) ∈ mgw := mgw_in (mtin_3 (List.mem_of_getElem? (i := 6) (by decide +kernel))) (by decide +kernel)
set_option maxRecDepth 20000 in
theorem wd_372 : (Cond.instanceMethod ⟨"ClauseIndex$Draft", "times", "(III)I"⟩ : Cond) ∈ mgw := mgw_in (mtin_3 (List.mem_of_getElem? (i := 7) (by decide +kernel))) (by decide +kernel)
set_option maxRecDepth 20000 in
theorem wd_373 : (Cond.selects "ClauseIndex$Draft" ⟨"ClauseIndex$Draft", "times", "(III)I"⟩ ⟨"ClauseIndex$Draft", "times", "(III)I"⟩ : Cond) ∈ mgw := mgw_in (mtin_3 (List.mem_of_getElem? (i := 8) (by decide +kernel))) (by decide +kernel)
set_option maxRecDepth 20000 in
theorem wd_374 : (Cond.methodLink "ClauseIndex" 137 ⟨"ClauseIndex$Draft", "loadPut", "(LClauseIndex$Draft;ILClauseIndex$Draft;II)Z"⟩ : Cond) ∈ mgw := mgw_in (mtin_3 (List.mem_of_getElem? (i := 10) (by decide +kernel))) (by decide +kernel)
set_option maxRecDepth 20000 in
theorem wd_375 : (Cond.instanceMethod ⟨"ClauseIndex$Draft", "loadPut", "(LClauseIndex$Draft;ILClauseIndex$Draft;II)Z"⟩ : Cond) ∈ mgw := mgw_in (mtin_3 (List.mem_of_getElem? (i := 11) (by decide +kernel))) (by decide +kernel)
set_option maxRecDepth 20000 in
theorem wd_376 : (Cond.selects "ClauseIndex$Draft" ⟨"ClauseIndex$Draft", "loadPut", "(LClauseIndex$Draft;ILClauseIndex$Draft;II)Z"⟩ ⟨"ClauseIndex$Draft", "loadPut", "(LClauseIndex$Draft;ILClauseIndex$Draft;II)Z"⟩ : Cond) ∈ mgw := mgw_in (mtin_3 (List.mem_of_getElem? (i := 12) (by decide +kernel))) (by decide +kernel)
set_option maxRecDepth 20000 in
theorem wd_377 : (Cond.methodLink "ClauseIndex" 141 ⟨"ClauseIndex$Reader", "latestPlace", "()I"⟩ : Cond) ∈ mgw := mgw_in (mtin_3 (List.mem_of_getElem? (i := 24) (by decide +kernel))) (by decide +kernel)
set_option maxRecDepth 20000 in
theorem wd_378 : (Cond.instanceMethod ⟨"ClauseIndex$Reader", "latestPlace", "()I"⟩ : Cond) ∈ mgw := mgw_in (mtin_3 (List.mem_of_getElem? (i := 25) (by decide +kernel))) (by decide +kernel)
set_option maxRecDepth 20000 in
theorem wd_379 : (Cond.selects "ClauseIndex$Reader" ⟨"ClauseIndex$Reader", "latestPlace", "()I"⟩ ⟨"ClauseIndex$Reader", "latestPlace", "()I"⟩ : Cond) ∈ mgw := mgw_in (mtin_3 (List.mem_of_getElem? (i := 26) (by decide +kernel))) (by decide +kernel)
set_option maxRecDepth 20000 in
theorem wd_380 : (Cond.methodLink "ClauseIndex" 144 ⟨"ClauseIndex", "clauseOf", "(I)LClauseIndex$Clause;"⟩ : Cond) ∈ mgw := mgw_in (mtin_3 (List.mem_of_getElem? (i := 32) (by decide +kernel))) (by decide +kernel)
set_option maxRecDepth 20000 in
theorem wd_381 : (Cond.instanceMethod ⟨"ClauseIndex", "clauseOf", "(I)LClauseIndex$Clause;"⟩ : Cond) ∈ mgw := mgw_in (mtin_3 (List.mem_of_getElem? (i := 34) (by decide +kernel))) (by decide +kernel)
theorem wd_382 : (Cond.selects "ClauseIndex" ⟨"ClauseIndex", "clauseOf", "(I)LClauseIndex$Clause;"⟩ ⟨"ClauseIndex", "clauseOf", "(I)LClauseIndex$Clause;"⟩ : Cond) ∈ mgw := mgw_in (List.mem_append_left _ (List.mem_of_getElem? (i := 11) (by decide +kernel))) (by decide +kernel)
set_option maxRecDepth 20000 in
theorem wd_383 : (Cond.methodLink "ClauseIndex" 148 ⟨"ClauseIndex$State", "clause", "(I)LClauseIndex$Clause;"⟩ : Cond) ∈ mgw := mgw_in (mtin_3 (List.mem_of_getElem? (i := 36) (by decide +kernel))) (by decide +kernel)
set_option maxRecDepth 20000 in
theorem wd_384 : (Cond.methodLink "ClauseIndex" 151 ⟨"ClauseIndex$State", "numbers", "()I"⟩ : Cond) ∈ mgw := mgw_in (mtin_3 (List.mem_of_getElem? (i := 45) (by decide +kernel))) (by decide +kernel)
set_option maxRecDepth 20000 in
theorem wd_385 : (Cond.methodLink "ClauseIndex" 154 ⟨"java/lang/Integer", "bitCount", "(I)I"⟩ : Cond) ∈ mgw := mgw_in (mtin_3 (List.mem_of_getElem? (i := 49) (by decide +kernel))) (by decide +kernel)
set_option maxRecDepth 20000 in
theorem wd_386 : (Cond.methodLink "ClauseIndex" 159 ⟨"ClauseIndex$Clause", "has", "(I)Z"⟩ : Cond) ∈ mgw := mgw_in (mtin_3 (List.mem_of_getElem? (i := 63) (by decide +kernel))) (by decide +kernel)
set_option maxRecDepth 20000 in
theorem wd_387 : (Cond.instanceMethod ⟨"ClauseIndex$Clause", "has", "(I)Z"⟩ : Cond) ∈ mgw := mgw_in (mtin_3 (List.mem_of_getElem? (i := 64) (by decide +kernel))) (by decide +kernel)
set_option maxRecDepth 20000 in
theorem wd_388 : (Cond.selects "ClauseIndex$Clause" ⟨"ClauseIndex$Clause", "has", "(I)Z"⟩ ⟨"ClauseIndex$Clause", "has", "(I)Z"⟩ : Cond) ∈ mgw := mgw_in (mtin_3 (List.mem_of_getElem? (i := 65) (by decide +kernel))) (by decide +kernel)
set_option maxRecDepth 20000 in
theorem wd_389 : (Cond.methodLink "ClauseIndex" 162 ⟨"ClauseIndex$Clause", "start", "(I)I"⟩ : Cond) ∈ mgw := mgw_in (mtin_3 (List.mem_of_getElem? (i := 68) (by decide +kernel))) (by decide +kernel)
set_option maxRecDepth 20000 in
theorem wd_390 : (Cond.methodLink "ClauseIndex" 165 ⟨"ClauseIndex$Clause", "codeAt", "(I)I"⟩ : Cond) ∈ mgw := mgw_in (mtin_3 (List.mem_of_getElem? (i := 72) (by decide +kernel))) (by decide +kernel)
set_option maxRecDepth 20000 in
theorem wd_391 : (Cond.methodLink "ClauseIndex" 166 ⟨"ClauseIndex$Clause", "symbols", "()I"⟩ : Cond) ∈ mgw := mgw_in (mtin_3 (List.mem_of_getElem? (i := 77) (by decide +kernel))) (by decide +kernel)
set_option maxRecDepth 20000 in
theorem wd_392 : (Cond.methodLink "ClauseIndex" 169 ⟨"ClauseIndex$Clause", "variableBits", "()I"⟩ : Cond) ∈ mgw := mgw_in (mtin_3 (List.mem_of_getElem? (i := 82) (by decide +kernel))) (by decide +kernel)
set_option maxRecDepth 20000 in
theorem wd_393 : (Cond.instanceMethod ⟨"ClauseIndex$Clause", "variableBits", "()I"⟩ : Cond) ∈ mgw := mgw_in (mtin_3 (List.mem_of_getElem? (i := 83) (by decide +kernel))) (by decide +kernel)
set_option maxRecDepth 20000 in
theorem wd_394 : (Cond.selects "ClauseIndex$Clause" ⟨"ClauseIndex$Clause", "variableBits", "()I"⟩ ⟨"ClauseIndex$Clause", "variableBits", "()I"⟩ : Cond) ∈ mgw := mgw_in (mtin_3 (List.mem_of_getElem? (i := 84) (by decide +kernel))) (by decide +kernel)
set_option maxRecDepth 20000 in
theorem wd_395 : (Cond.methodLink "ClauseIndex" 172 ⟨"ClauseIndex$Clause", "opposite", "(II)Z"⟩ : Cond) ∈ mgw := mgw_in (mtin_3 (List.mem_of_getElem? (i := 91) (by decide +kernel))) (by decide +kernel)
set_option maxRecDepth 20000 in
theorem wd_396 : (Cond.instanceMethod ⟨"ClauseIndex$Clause", "opposite", "(II)Z"⟩ : Cond) ∈ mgw := mgw_in (mtin_3 (List.mem_of_getElem? (i := 92) (by decide +kernel))) (by decide +kernel)
set_option maxRecDepth 20000 in
theorem wd_397 : (Cond.selects "ClauseIndex$Clause" ⟨"ClauseIndex$Clause", "opposite", "(II)Z"⟩ ⟨"ClauseIndex$Clause", "opposite", "(II)Z"⟩ : Cond) ∈ mgw := mgw_in (mtin_3 (List.mem_of_getElem? (i := 93) (by decide +kernel))) (by decide +kernel)
set_option maxRecDepth 20000 in
theorem wd_398 : (Cond.methodLink "ClauseIndex" 176 ⟨"ClauseIndex", "fewest", "(LClauseIndex$Clause;)I"⟩ : Cond) ∈ mgw := mgw_in (mtin_3 (List.mem_of_getElem? (i := 105) (by decide +kernel))) (by decide +kernel)
set_option maxRecDepth 20000 in
theorem wd_399 : (Cond.instanceMethod ⟨"ClauseIndex", "fewest", "(LClauseIndex$Clause;)I"⟩ : Cond) ∈ mgw := mgw_in (mtin_3 (List.mem_of_getElem? (i := 107) (by decide +kernel))) (by decide +kernel)
theorem wd_400 : (Cond.selects "ClauseIndex" ⟨"ClauseIndex", "fewest", "(LClauseIndex$Clause;)I"⟩ ⟨"ClauseIndex", "fewest", "(LClauseIndex$Clause;)I"⟩ : Cond) ∈ mgw := mgw_in (List.mem_append_left _ (List.mem_of_getElem? (i := 12) (by decide +kernel))) (by decide +kernel)
set_option maxRecDepth 20000 in
theorem wd_401 : (Cond.static ⟨"ClauseIndex", "isMode", "(I)Z"⟩ : Cond) ∈ mgw := mgw_in (mtin_3 (List.mem_of_getElem? (i := 147) (by decide +kernel))) (by decide +kernel)
set_option maxRecDepth 20000 in
theorem wd_402 : (Cond.methodLink "ClauseIndex" 180 ⟨"ClauseIndex", "isMode", "(I)Z"⟩ : Cond) ∈ mgw := mgw_in (mtin_3 (List.mem_of_getElem? (i := 146) (by decide +kernel))) (by decide +kernel)
set_option maxRecDepth 20000 in
theorem wd_403 : (Cond.methodLink "ClauseIndex" 183 ⟨"ClauseIndex$Matcher", "findsFirst", "(LClauseIndex$Clause;LClauseIndex$Clause;I)Z"⟩ : Cond) ∈ mgw := mgw_in (mtin_3 (List.mem_of_getElem? (i := 149) (by decide +kernel))) (by decide +kernel)
set_option maxRecDepth 20000 in
theorem wd_404 : (Cond.instanceMethod ⟨"ClauseIndex$Matcher", "findsFirst", "(LClauseIndex$Clause;LClauseIndex$Clause;I)Z"⟩ : Cond) ∈ mgw := mgw_in (mtin_3 (List.mem_of_getElem? (i := 150) (by decide +kernel))) (by decide +kernel)
set_option maxRecDepth 20000 in
theorem wd_405 : (Cond.selects "ClauseIndex$Matcher" ⟨"ClauseIndex$Matcher", "findsFirst", "(LClauseIndex$Clause;LClauseIndex$Clause;I)Z"⟩ ⟨"ClauseIndex$Matcher", "findsFirst", "(LClauseIndex$Clause;LClauseIndex$Clause;I)Z"⟩ : Cond) ∈ mgw := mgw_in (mtin_3 (List.mem_of_getElem? (i := 151) (by decide +kernel))) (by decide +kernel)
set_option maxRecDepth 20000 in
theorem wd_406 : (Cond.methodLink "ClauseIndex" 187 ⟨"ClauseIndex$Matcher", "countAll", "(LClauseIndex$Clause;LClauseIndex$Clause;I)I"⟩ : Cond) ∈ mgw := mgw_in (mtin_3 (List.mem_of_getElem? (i := 160) (by decide +kernel))) (by decide +kernel)
set_option maxRecDepth 20000 in
theorem wd_407 : (Cond.instanceMethod ⟨"ClauseIndex$Matcher", "countAll", "(LClauseIndex$Clause;LClauseIndex$Clause;I)I"⟩ : Cond) ∈ mgw := mgw_in (mtin_3 (List.mem_of_getElem? (i := 161) (by decide +kernel))) (by decide +kernel)
set_option maxRecDepth 20000 in
theorem wd_408 : (Cond.selects "ClauseIndex$Matcher" ⟨"ClauseIndex$Matcher", "countAll", "(LClauseIndex$Clause;LClauseIndex$Clause;I)I"⟩ ⟨"ClauseIndex$Matcher", "countAll", "(LClauseIndex$Clause;LClauseIndex$Clause;I)I"⟩ : Cond) ∈ mgw := mgw_in (mtin_3 (List.mem_of_getElem? (i := 162) (by decide +kernel))) (by decide +kernel)
set_option maxRecDepth 20000 in
theorem wd_409 : (Cond.methodLink "ClauseIndex" 191 ⟨"ClauseIndex$Matcher", "placeOf", "(I)I"⟩ : Cond) ∈ mgw := mgw_in (mtin_3 (List.mem_of_getElem? (i := 169) (by decide +kernel))) (by decide +kernel)
set_option maxRecDepth 20000 in
theorem wd_410 : (Cond.instanceMethod ⟨"ClauseIndex$Matcher", "placeOf", "(I)I"⟩ : Cond) ∈ mgw := mgw_in (mtin_3 (List.mem_of_getElem? (i := 170) (by decide +kernel))) (by decide +kernel)
set_option maxRecDepth 20000 in
theorem wd_411 : (Cond.selects "ClauseIndex$Matcher" ⟨"ClauseIndex$Matcher", "placeOf", "(I)I"⟩ ⟨"ClauseIndex$Matcher", "placeOf", "(I)I"⟩ : Cond) ∈ mgw := mgw_in (mtin_3 (List.mem_of_getElem? (i := 171) (by decide +kernel))) (by decide +kernel)
set_option maxRecDepth 20000 in
theorem wd_412 : (Cond.methodLink "ClauseIndex" 194 ⟨"ClauseIndex$Matcher", "termOf", "(I)I"⟩ : Cond) ∈ mgw := mgw_in (mtin_3 (List.mem_of_getElem? (i := 177) (by decide +kernel))) (by decide +kernel)
set_option maxRecDepth 20000 in
theorem wd_413 : (Cond.instanceMethod ⟨"ClauseIndex$Matcher", "termOf", "(I)I"⟩ : Cond) ∈ mgw := mgw_in (mtin_3 (List.mem_of_getElem? (i := 178) (by decide +kernel))) (by decide +kernel)
set_option maxRecDepth 20000 in
theorem wd_414 : (Cond.selects "ClauseIndex$Matcher" ⟨"ClauseIndex$Matcher", "termOf", "(I)I"⟩ ⟨"ClauseIndex$Matcher", "termOf", "(I)I"⟩ : Cond) ∈ mgw := mgw_in (mtin_3 (List.mem_of_getElem? (i := 179) (by decide +kernel))) (by decide +kernel)
set_option maxRecDepth 20000 in
theorem wd_415 : (Cond.methodLink "ClauseIndex" 197 ⟨"ClauseIndex$Clause", "endOfTerm", "(I)I"⟩ : Cond) ∈ mgw := mgw_in (mtin_3 (List.mem_of_getElem? (i := 181) (by decide +kernel))) (by decide +kernel)
set_option maxRecDepth 20000 in
theorem wd_416 : (Cond.methodLink "ClauseIndex" 200 ⟨"ClauseIndex$Matcher", "findsForOne", "(LClauseIndex$Clause;ILClauseIndex$Clause;)Z"⟩ : Cond) ∈ mgw := mgw_in (mtin_3 (List.mem_of_getElem? (i := 186) (by decide +kernel))) (by decide +kernel)
set_option maxRecDepth 20000 in
theorem wd_417 : (Cond.instanceMethod ⟨"ClauseIndex$Matcher", "findsForOne", "(LClauseIndex$Clause;ILClauseIndex$Clause;)Z"⟩ : Cond) ∈ mgw := mgw_in (mtin_3 (List.mem_of_getElem? (i := 187) (by decide +kernel))) (by decide +kernel)
set_option maxRecDepth 20000 in
theorem wd_418 : (Cond.selects "ClauseIndex$Matcher" ⟨"ClauseIndex$Matcher", "findsForOne", "(LClauseIndex$Clause;ILClauseIndex$Clause;)Z"⟩ ⟨"ClauseIndex$Matcher", "findsForOne", "(LClauseIndex$Clause;ILClauseIndex$Clause;)Z"⟩ : Cond) ∈ mgw := mgw_in (mtin_3 (List.mem_of_getElem? (i := 188) (by decide +kernel))) (by decide +kernel)
set_option maxRecDepth 20000 in
theorem wd_419 : (Cond.methodLink "ClauseIndex" 204 ⟨"ClauseIndex", "makeSame", "(II)I"⟩ : Cond) ∈ mgw := mgw_in (mtin_3 (List.mem_of_getElem? (i := 194) (by decide +kernel))) (by decide +kernel)
set_option maxRecDepth 20000 in
theorem wd_420 : (Cond.instanceMethod ⟨"ClauseIndex", "makeSame", "(II)I"⟩ : Cond) ∈ mgw := mgw_in (mtin_3 (List.mem_of_getElem? (i := 196) (by decide +kernel))) (by decide +kernel)
theorem wd_421 : (Cond.selects "ClauseIndex" ⟨"ClauseIndex", "makeSame", "(II)I"⟩ ⟨"ClauseIndex", "makeSame", "(II)I"⟩ : Cond) ∈ mgw := mgw_in (List.mem_append_left _ (List.mem_of_getElem? (i := 18) (by decide +kernel))) (by decide +kernel)
set_option maxRecDepth 20000 in
theorem wd_422 : (Cond.methodLink "ClauseIndex" 208 ⟨"ClauseIndex$Draft", "startOf", "(I)I"⟩ : Cond) ∈ mgw := mgw_in (mtin_3 (List.mem_of_getElem? (i := 198) (by decide +kernel))) (by decide +kernel)
set_option maxRecDepth 20000 in
theorem wd_423 : (Cond.instanceMethod ⟨"ClauseIndex$Draft", "startOf", "(I)I"⟩ : Cond) ∈ mgw := mgw_in (mtin_3 (List.mem_of_getElem? (i := 199) (by decide +kernel))) (by decide +kernel)
set_option maxRecDepth 20000 in
theorem wd_424 : (Cond.selects "ClauseIndex$Draft" ⟨"ClauseIndex$Draft", "startOf", "(I)I"⟩ ⟨"ClauseIndex$Draft", "startOf", "(I)I"⟩ : Cond) ∈ mgw := mgw_in (mtin_3 (List.mem_of_getElem? (i := 200) (by decide +kernel))) (by decide +kernel)
set_option maxRecDepth 20000 in
theorem wd_425 : (Cond.methodLink "ClauseIndex" 211 ⟨"ClauseIndex$Draft", "loadWithout", "(LClauseIndex$Draft;II)V"⟩ : Cond) ∈ mgw := mgw_in (mtin_3 (List.mem_of_getElem? (i := 212) (by decide +kernel))) (by decide +kernel)
set_option maxRecDepth 20000 in
theorem wd_426 : (Cond.instanceMethod ⟨"ClauseIndex$Draft", "loadWithout", "(LClauseIndex$Draft;II)V"⟩ : Cond) ∈ mgw := mgw_in (mtin_3 (List.mem_of_getElem? (i := 213) (by decide +kernel))) (by decide +kernel)
set_option maxRecDepth 20000 in
theorem wd_427 : (Cond.selects "ClauseIndex$Draft" ⟨"ClauseIndex$Draft", "loadWithout", "(LClauseIndex$Draft;II)V"⟩ ⟨"ClauseIndex$Draft", "loadWithout", "(LClauseIndex$Draft;II)V"⟩ : Cond) ∈ mgw := mgw_in (mtin_3 (List.mem_of_getElem? (i := 214) (by decide +kernel))) (by decide +kernel)
set_option maxRecDepth 20000 in
theorem wd_428 : (Cond.methodLink "ClauseIndex" 215 ⟨"ClauseIndex$Matcher", "findsRenaming", "(LClauseIndex$Clause;LClauseIndex$Clause;)Z"⟩ : Cond) ∈ mgw := mgw_in (mtin_3 (List.mem_of_getElem? (i := 220) (by decide +kernel))) (by decide +kernel)
set_option maxRecDepth 20000 in
theorem wd_429 : (Cond.instanceMethod ⟨"ClauseIndex$Matcher", "findsRenaming", "(LClauseIndex$Clause;LClauseIndex$Clause;)Z"⟩ : Cond) ∈ mgw := mgw_in (mtin_3 (List.mem_of_getElem? (i := 221) (by decide +kernel))) (by decide +kernel)
set_option maxRecDepth 20000 in
theorem wd_430 : (Cond.selects "ClauseIndex$Matcher" ⟨"ClauseIndex$Matcher", "findsRenaming", "(LClauseIndex$Clause;LClauseIndex$Clause;)Z"⟩ ⟨"ClauseIndex$Matcher", "findsRenaming", "(LClauseIndex$Clause;LClauseIndex$Clause;)Z"⟩ : Cond) ∈ mgw := mgw_in (mtin_3 (List.mem_of_getElem? (i := 222) (by decide +kernel))) (by decide +kernel)
set_option maxRecDepth 20000 in
theorem wd_431 : (Cond.methodLink "ClauseIndex" 219 ⟨"ClauseIndex", "isFeature", "(I)Z"⟩ : Cond) ∈ mgw := mgw_in (mtin_3 (List.mem_of_getElem? (i := 228) (by decide +kernel))) (by decide +kernel)
set_option maxRecDepth 20000 in
theorem wd_432 : (Cond.methodLink "ClauseIndex" 222 ⟨"ClauseIndex$Clause", "measure", "(II)I"⟩ : Cond) ∈ mgw := mgw_in (mtin_3 (List.mem_of_getElem? (i := 231) (by decide +kernel))) (by decide +kernel)
set_option maxRecDepth 20000 in
theorem wd_433 : (Cond.methodLink "ClauseIndex" 225 ⟨"ClauseIndex$Parting", "unlike", "(LClauseIndex$State;II)I"⟩ : Cond) ∈ mgw := mgw_in (mtin_4 (List.mem_of_getElem? (i := 3) (by decide +kernel))) (by decide +kernel)
set_option maxRecDepth 20000 in
theorem wd_434 : (Cond.methodLink "ClauseIndex" 229 ⟨"ClauseIndex$Parting", "strongest", "(LClauseIndex$State;I[II)V"⟩ : Cond) ∈ mgw := mgw_in (mtin_4 (List.mem_of_getElem? (i := 17) (by decide +kernel))) (by decide +kernel)
set_option maxRecDepth 20000 in
theorem wd_435 : (Cond.instanceMethod ⟨"ClauseIndex$Parting", "strongest", "(LClauseIndex$State;I[II)V"⟩ : Cond) ∈ mgw := mgw_in (mtin_4 (List.mem_of_getElem? (i := 18) (by decide +kernel))) (by decide +kernel)
set_option maxRecDepth 20000 in
theorem wd_436 : (Cond.selects "ClauseIndex$Parting" ⟨"ClauseIndex$Parting", "strongest", "(LClauseIndex$State;I[II)V"⟩ ⟨"ClauseIndex$Parting", "strongest", "(LClauseIndex$State;I[II)V"⟩ : Cond) ∈ mgw := mgw_in (mtin_4 (List.mem_of_getElem? (i := 19) (by decide +kernel))) (by decide +kernel)
set_option maxRecDepth 20000 in
theorem wd_437 : (Cond.methodLink "ClauseIndex" 233 ⟨"ClauseIndex", "changeOrder", "(I)V"⟩ : Cond) ∈ mgw := mgw_in (mtin_4 (List.mem_of_getElem? (i := 22) (by decide +kernel))) (by decide +kernel)
set_option maxRecDepth 20000 in
theorem wd_438 : (Cond.instanceMethod ⟨"ClauseIndex", "changeOrder", "(I)V"⟩ : Cond) ∈ mgw := mgw_in (mtin_4 (List.mem_of_getElem? (i := 24) (by decide +kernel))) (by decide +kernel)
theorem wd_439 : (Cond.selects "ClauseIndex" ⟨"ClauseIndex", "changeOrder", "(I)V"⟩ ⟨"ClauseIndex", "changeOrder", "(I)V"⟩ : Cond) ∈ mgw := mgw_in (List.mem_append_left _ (List.mem_of_getElem? (i := 22) (by decide +kernel))) (by decide +kernel)
set_option maxRecDepth 20000 in
theorem wd_440 : (Cond.methodLink "ClauseIndex" 236 ⟨"ClauseIndex$Tree", "grow", "(LClauseIndex$State;)V"⟩ : Cond) ∈ mgw := mgw_in (mtin_4 (List.mem_of_getElem? (i := 34) (by decide +kernel))) (by decide +kernel)
set_option maxRecDepth 20000 in
theorem wd_441 : (Cond.instanceMethod ⟨"ClauseIndex$Tree", "grow", "(LClauseIndex$State;)V"⟩ : Cond) ∈ mgw := mgw_in (mtin_4 (List.mem_of_getElem? (i := 35) (by decide +kernel))) (by decide +kernel)
set_option maxRecDepth 20000 in
theorem wd_442 : (Cond.selects "ClauseIndex$Tree" ⟨"ClauseIndex$Tree", "grow", "(LClauseIndex$State;)V"⟩ ⟨"ClauseIndex$Tree", "grow", "(LClauseIndex$State;)V"⟩ : Cond) ∈ mgw := mgw_in (mtin_4 (List.mem_of_getElem? (i := 36) (by decide +kernel))) (by decide +kernel)
set_option maxRecDepth 20000 in
theorem wd_443 : (Cond.methodLink "ClauseIndex" 240 ⟨"ClauseIndex$Tree", "size", "()I"⟩ : Cond) ∈ mgw := mgw_in (mtin_4 (List.mem_of_getElem? (i := 55) (by decide +kernel))) (by decide +kernel)
set_option maxRecDepth 20000 in
theorem wd_444 : (Cond.instanceMethod ⟨"ClauseIndex$Tree", "size", "()I"⟩ : Cond) ∈ mgw := mgw_in (mtin_4 (List.mem_of_getElem? (i := 56) (by decide +kernel))) (by decide +kernel)
set_option maxRecDepth 20000 in
theorem wd_445 : (Cond.selects "ClauseIndex$Tree" ⟨"ClauseIndex$Tree", "size", "()I"⟩ ⟨"ClauseIndex$Tree", "size", "()I"⟩ : Cond) ∈ mgw := mgw_in (mtin_4 (List.mem_of_getElem? (i := 57) (by decide +kernel))) (by decide +kernel)
set_option maxRecDepth 20000 in
theorem wd_446 : (Cond.methodLink "ClauseIndex" 241 ⟨"ClauseIndex$Parting", "closest", "(LClauseIndex$State;I[II)I"⟩ : Cond) ∈ mgw := mgw_in (mtin_4 (List.mem_of_getElem? (i := 63) (by decide +kernel))) (by decide +kernel)
set_option maxRecDepth 20000 in
theorem wd_447 : (Cond.instanceMethod ⟨"ClauseIndex$Parting", "closest", "(LClauseIndex$State;I[II)I"⟩ : Cond) ∈ mgw := mgw_in (mtin_4 (List.mem_of_getElem? (i := 64) (by decide +kernel))) (by decide +kernel)
set_option maxRecDepth 20000 in
theorem wd_448 : (Cond.selects "ClauseIndex$Parting" ⟨"ClauseIndex$Parting", "closest", "(LClauseIndex$State;I[II)I"⟩ ⟨"ClauseIndex$Parting", "closest", "(LClauseIndex$State;I[II)I"⟩ : Cond) ∈ mgw := mgw_in (mtin_4 (List.mem_of_getElem? (i := 65) (by decide +kernel))) (by decide +kernel)
set_option maxRecDepth 20000 in
theorem wd_449 : (Cond.methodLink "ClauseIndex" 245 ⟨"ClauseIndex$State", "laid", "()I"⟩ : Cond) ∈ mgw := mgw_in (mtin_4 (List.mem_of_getElem? (i := 98) (by decide +kernel))) (by decide +kernel)
set_option maxRecDepth 20000 in
theorem wd_450 : (Cond.methodLink "ClauseIndex" 248 ⟨"ClauseIndex$State", "isLaid", "(I)Z"⟩ : Cond) ∈ mgw := mgw_in (mtin_4 (List.mem_of_getElem? (i := 99) (by decide +kernel))) (by decide +kernel)
set_option maxRecDepth 20000 in
theorem wd_451 : (Cond.instanceMethod ⟨"ClauseIndex$State", "isLaid", "(I)Z"⟩ : Cond) ∈ mgw := mgw_in (mtin_4 (List.mem_of_getElem? (i := 100) (by decide +kernel))) (by decide +kernel)
set_option maxRecDepth 20000 in
theorem wd_452 : (Cond.selects "ClauseIndex$State" ⟨"ClauseIndex$State", "isLaid", "(I)Z"⟩ ⟨"ClauseIndex$State", "isLaid", "(I)Z"⟩ : Cond) ∈ mgw := mgw_in (mtin_4 (List.mem_of_getElem? (i := 101) (by decide +kernel))) (by decide +kernel)
set_option maxRecDepth 20000 in
theorem wd_453 : (Cond.methodLink "ClauseIndex" 251 ⟨"ClauseIndex$History", "note", "(LClauseIndex$State;)V"⟩ : Cond) ∈ mgw := mgw_in (mtin_2 (List.mem_of_getElem? (i := 167) (by decide +kernel))) (by decide +kernel)
set_option maxRecDepth 20000 in
theorem wd_454 : (Cond.instanceMethod ⟨"ClauseIndex$History", "note", "(LClauseIndex$State;)V"⟩ : Cond) ∈ mgw := mgw_in (mtin_2 (List.mem_of_getElem? (i := 168) (by decide +kernel))) (by decide +kernel)
set_option maxRecDepth 20000 in
theorem wd_455 : (Cond.selects "ClauseIndex$History" ⟨"ClauseIndex$History", "note", "(LClauseIndex$State;)V"⟩ ⟨"ClauseIndex$History", "note", "(LClauseIndex$State;)V"⟩ : Cond) ∈ mgw := mgw_in (mtin_2 (List.mem_of_getElem? (i := 169) (by decide +kernel))) (by decide +kernel)
set_option maxRecDepth 20000 in
theorem wd_456 : (Cond.methodLink "ClauseIndex" 254 ⟨"ClauseIndex$State", "append", "(I)V"⟩ : Cond) ∈ mgw := mgw_in (mtin_4 (List.mem_of_getElem? (i := 103) (by decide +kernel))) (by decide +kernel)
set_option maxRecDepth 20000 in
theorem wd_457 : (Cond.methodLink "ClauseIndex" 257 ⟨"ClauseIndex$State", "dropLast", "()V"⟩ : Cond) ∈ mgw := mgw_in (mtin_4 (List.mem_of_getElem? (i := 108) (by decide +kernel))) (by decide +kernel)
set_option maxRecDepth 20000 in
theorem wd_458 : (Cond.instanceMethod ⟨"ClauseIndex$State", "dropLast", "()V"⟩ : Cond) ∈ mgw := mgw_in (mtin_4 (List.mem_of_getElem? (i := 109) (by decide +kernel))) (by decide +kernel)
set_option maxRecDepth 20000 in
theorem wd_459 : (Cond.selects "ClauseIndex$State" ⟨"ClauseIndex$State", "dropLast", "()V"⟩ ⟨"ClauseIndex$State", "dropLast", "()V"⟩ : Cond) ∈ mgw := mgw_in (mtin_4 (List.mem_of_getElem? (i := 110) (by decide +kernel))) (by decide +kernel)
set_option maxRecDepth 20000 in
theorem wd_460 : (Cond.methodLink "ClauseIndex" 260 ⟨"ClauseIndex$State", "featureAt", "(I)I"⟩ : Cond) ∈ mgw := mgw_in (mtin_4 (List.mem_of_getElem? (i := 116) (by decide +kernel))) (by decide +kernel)
set_option maxRecDepth 20000 in
theorem wd_461 : (Cond.methodLink "ClauseIndex" 263 ⟨"ClauseIndex$Tree", "levelOf", "(I)I"⟩ : Cond) ∈ mgw := mgw_in (mtin_4 (List.mem_of_getElem? (i := 125) (by decide +kernel))) (by decide +kernel)
set_option maxRecDepth 20000 in
theorem wd_462 : (Cond.methodLink "ClauseIndex" 266 ⟨"ClauseIndex$Tree", "valueOf", "(I)I"⟩ : Cond) ∈ mgw := mgw_in (mtin_4 (List.mem_of_getElem? (i := 129) (by decide +kernel))) (by decide +kernel)
set_option maxRecDepth 20000 in
theorem wd_463 : (Cond.methodLink "ClauseIndex" 269 ⟨"ClauseIndex$Tree", "childrenOf", "(I)I"⟩ : Cond) ∈ mgw := mgw_in (mtin_4 (List.mem_of_getElem? (i := 133) (by decide +kernel))) (by decide +kernel)
set_option maxRecDepth 20000 in
theorem wd_464 : (Cond.instanceMethod ⟨"ClauseIndex$Tree", "childrenOf", "(I)I"⟩ : Cond) ∈ mgw := mgw_in (mtin_4 (List.mem_of_getElem? (i := 134) (by decide +kernel))) (by decide +kernel)
set_option maxRecDepth 20000 in
theorem wd_465 : (Cond.selects "ClauseIndex$Tree" ⟨"ClauseIndex$Tree", "childrenOf", "(I)I"⟩ ⟨"ClauseIndex$Tree", "childrenOf", "(I)I"⟩ : Cond) ∈ mgw := mgw_in (mtin_4 (List.mem_of_getElem? (i := 135) (by decide +kernel))) (by decide +kernel)
set_option maxRecDepth 20000 in
theorem wd_466 : (Cond.methodLink "ClauseIndex" 272 ⟨"ClauseIndex$Tree", "membersOf", "(I)I"⟩ : Cond) ∈ mgw := mgw_in (mtin_4 (List.mem_of_getElem? (i := 137) (by decide +kernel))) (by decide +kernel)
set_option maxRecDepth 20000 in
theorem wd_467 : (Cond.methodLink "ClauseIndex" 275 ⟨"ClauseIndex$Tree", "endOf", "(II)I"⟩ : Cond) ∈ mgw := mgw_in (mtin_4 (List.mem_of_getElem? (i := 145) (by decide +kernel))) (by decide +kernel)
set_option maxRecDepth 20000 in
theorem wd_468 : (Cond.instanceMethod ⟨"ClauseIndex$Tree", "endOf", "(II)I"⟩ : Cond) ∈ mgw := mgw_in (mtin_4 (List.mem_of_getElem? (i := 146) (by decide +kernel))) (by decide +kernel)
set_option maxRecDepth 20000 in
theorem wd_469 : (Cond.selects "ClauseIndex$Tree" ⟨"ClauseIndex$Tree", "endOf", "(II)I"⟩ ⟨"ClauseIndex$Tree", "endOf", "(II)I"⟩ : Cond) ∈ mgw := mgw_in (mtin_4 (List.mem_of_getElem? (i := 147) (by decide +kernel))) (by decide +kernel)
set_option maxRecDepth 20000 in
theorem wd_470 : (Cond.methodLink "ClauseIndex" 278 ⟨"ClauseIndex", "judged", "(II)I"⟩ : Cond) ∈ mgw := mgw_in (mtin_4 (List.mem_of_getElem? (i := 155) (by decide +kernel))) (by decide +kernel)
set_option maxRecDepth 20000 in
theorem wd_471 : (Cond.instanceMethod ⟨"ClauseIndex", "judged", "(II)I"⟩ : Cond) ∈ mgw := mgw_in (mtin_4 (List.mem_of_getElem? (i := 157) (by decide +kernel))) (by decide +kernel)
theorem wd_472 : (Cond.selects "ClauseIndex" ⟨"ClauseIndex", "judged", "(II)I"⟩ ⟨"ClauseIndex", "judged", "(II)I"⟩ : Cond) ∈ mgw := mgw_in (List.mem_append_left _ (List.mem_of_getElem? (i := 29) (by decide +kernel))) (by decide +kernel)
set_option maxRecDepth 20000 in
theorem wd_473 : (Cond.static ⟨"ClauseIndex", "pick", "(II)I"⟩ : Cond) ∈ mgw := mgw_in (mtin_4 (List.mem_of_getElem? (i := 160) (by decide +kernel))) (by decide +kernel)
set_option maxRecDepth 20000 in
theorem wd_474 : (Cond.methodLink "ClauseIndex" 281 ⟨"ClauseIndex", "pick", "(II)I"⟩ : Cond) ∈ mgw := mgw_in (mtin_4 (List.mem_of_getElem? (i := 159) (by decide +kernel))) (by decide +kernel)
set_option maxRecDepth 20000 in
theorem wd_475 : (Cond.static ⟨"ClauseIndex", "isWay", "(I)Z"⟩ : Cond) ∈ mgw := mgw_in (mtin_4 (List.mem_of_getElem? (i := 171) (by decide +kernel))) (by decide +kernel)
set_option maxRecDepth 20000 in
theorem wd_476 : (Cond.methodLink "ClauseIndex" 284 ⟨"ClauseIndex", "isWay", "(I)Z"⟩ : Cond) ∈ mgw := mgw_in (mtin_4 (List.mem_of_getElem? (i := 170) (by decide +kernel))) (by decide +kernel)
set_option maxRecDepth 20000 in
theorem wd_477 : (Cond.methodLink "ClauseIndex" 287 ⟨"ClauseIndex$Tree", "walk", "(LClauseIndex$State;LClauseIndex$Clause;II)I"⟩ : Cond) ∈ mgw := mgw_in (mtin_4 (List.mem_of_getElem? (i := 173) (by decide +kernel))) (by decide +kernel)
set_option maxRecDepth 20000 in
theorem wd_478 : (Cond.instanceMethod ⟨"ClauseIndex$Tree", "walk", "(LClauseIndex$State;LClauseIndex$Clause;II)I"⟩ : Cond) ∈ mgw := mgw_in (mtin_4 (List.mem_of_getElem? (i := 174) (by decide +kernel))) (by decide +kernel)
set_option maxRecDepth 20000 in
theorem wd_479 : (Cond.selects "ClauseIndex$Tree" ⟨"ClauseIndex$Tree", "walk", "(LClauseIndex$State;LClauseIndex$Clause;II)I"⟩ ⟨"ClauseIndex$Tree", "walk", "(LClauseIndex$State;LClauseIndex$Clause;II)I"⟩ : Cond) ∈ mgw := mgw_in (mtin_4 (List.mem_of_getElem? (i := 175) (by decide +kernel))) (by decide +kernel)
set_option maxRecDepth 20000 in
theorem wd_480 : (Cond.methodLink "ClauseIndex" 291 ⟨"ClauseIndex$Tree", "reachedBits", "()I"⟩ : Cond) ∈ mgw := mgw_in (mtin_4 (List.mem_of_getElem? (i := 189) (by decide +kernel))) (by decide +kernel)
set_option maxRecDepth 20000 in
theorem wd_481 : (Cond.instanceMethod ⟨"ClauseIndex$Tree", "reachedBits", "()I"⟩ : Cond) ∈ mgw := mgw_in (mtin_4 (List.mem_of_getElem? (i := 190) (by decide +kernel))) (by decide +kernel)
set_option maxRecDepth 20000 in
theorem wd_482 : (Cond.selects "ClauseIndex$Tree" ⟨"ClauseIndex$Tree", "reachedBits", "()I"⟩ ⟨"ClauseIndex$Tree", "reachedBits", "()I"⟩ : Cond) ∈ mgw := mgw_in (mtin_4 (List.mem_of_getElem? (i := 191) (by decide +kernel))) (by decide +kernel)
set_option maxRecDepth 20000 in
theorem wd_483 : (Cond.methodLink "ClauseIndex" 294 ⟨"ClauseIndex$Parting", "leftByOrder", "(LClauseIndex$State;I)I"⟩ : Cond) ∈ mgw := mgw_in (mtin_4 (List.mem_of_getElem? (i := 201) (by decide +kernel))) (by decide +kernel)
set_option maxRecDepth 20000 in
theorem wd_484 : (Cond.instanceMethod ⟨"ClauseIndex$Parting", "leftByOrder", "(LClauseIndex$State;I)I"⟩ : Cond) ∈ mgw := mgw_in (mtin_4 (List.mem_of_getElem? (i := 202) (by decide +kernel))) (by decide +kernel)
set_option maxRecDepth 20000 in
theorem wd_485 : (Cond.selects "ClauseIndex$Parting" ⟨"ClauseIndex$Parting", "leftByOrder", "(LClauseIndex$State;I)I"⟩ ⟨"ClauseIndex$Parting", "leftByOrder", "(LClauseIndex$State;I)I"⟩ : Cond) ∈ mgw := mgw_in (mtin_4 (List.mem_of_getElem? (i := 203) (by decide +kernel))) (by decide +kernel)
set_option maxRecDepth 20000 in
theorem wd_486 : (Cond.methodLink "ClauseIndex" 298 ⟨"ClauseIndex", "relation", "(I)LClauseIndex$Relation;"⟩ : Cond) ∈ mgw := mgw_in (mtin_4 (List.mem_of_getElem? (i := 207) (by decide +kernel))) (by decide +kernel)
set_option maxRecDepth 20000 in
theorem wd_487 : (Cond.instanceMethod ⟨"ClauseIndex", "relation", "(I)LClauseIndex$Relation;"⟩ : Cond) ∈ mgw := mgw_in (mtin_4 (List.mem_of_getElem? (i := 209) (by decide +kernel))) (by decide +kernel)
theorem wd_488 : (Cond.selects "ClauseIndex" ⟨"ClauseIndex", "relation", "(I)LClauseIndex$Relation;"⟩ ⟨"ClauseIndex", "relation", "(I)LClauseIndex$Relation;"⟩ : Cond) ∈ mgw := mgw_in (List.mem_append_left _ (List.mem_of_getElem? (i := 31) (by decide +kernel))) (by decide +kernel)
set_option maxRecDepth 20000 in
theorem wd_489 : (Cond.methodLink "ClauseIndex" 302 ⟨"ClauseIndex$Relation", "size", "()I"⟩ : Cond) ∈ mgw := mgw_in (mtin_4 (List.mem_of_getElem? (i := 223) (by decide +kernel))) (by decide +kernel)
set_option maxRecDepth 20000 in
theorem wd_490 : (Cond.instanceMethod ⟨"ClauseIndex$Relation", "size", "()I"⟩ : Cond) ∈ mgw := mgw_in (mtin_4 (List.mem_of_getElem? (i := 224) (by decide +kernel))) (by decide +kernel)
set_option maxRecDepth 20000 in
theorem wd_491 : (Cond.selects "ClauseIndex$Relation" ⟨"ClauseIndex$Relation", "size", "()I"⟩ ⟨"ClauseIndex$Relation", "size", "()I"⟩ : Cond) ∈ mgw := mgw_in (mtin_4 (List.mem_of_getElem? (i := 225) (by decide +kernel))) (by decide +kernel)
set_option maxRecDepth 20000 in
theorem wd_492 : (Cond.static ⟨"ClauseIndex", "floatBits", "(II)I"⟩ : Cond) ∈ mgw := mgw_in (mtin_4 (List.mem_of_getElem? (i := 233) (by decide +kernel))) (by decide +kernel)
set_option maxRecDepth 20000 in
theorem wd_493 : (Cond.methodLink "ClauseIndex" 303 ⟨"ClauseIndex", "floatBits", "(II)I"⟩ : Cond) ∈ mgw := mgw_in (mtin_4 (List.mem_of_getElem? (i := 232) (by decide +kernel))) (by decide +kernel)
set_option maxRecDepth 20000 in
theorem wd_494 : (Cond.methodLink "ClauseIndex" 306 ⟨"ClauseIndex$Parting", "bestTwo", "(LClauseIndex$State;I)V"⟩ : Cond) ∈ mgw := mgw_in (mtin_5 (List.mem_of_getElem? (i := 1) (by decide +kernel))) (by decide +kernel)
set_option maxRecDepth 20000 in
theorem wd_495 : (Cond.instanceMethod ⟨"ClauseIndex$Parting", "bestTwo", "(LClauseIndex$State;I)V"⟩ : Cond) ∈ mgw := mgw_in (mtin_5 (List.mem_of_getElem? (i := 2) (by decide +kernel))) (by decide +kernel)
set_option maxRecDepth 20000 in
theorem wd_496 : (Cond.selects "ClauseIndex$Parting" ⟨"ClauseIndex$Parting", "bestTwo", "(LClauseIndex$State;I)V"⟩ ⟨"ClauseIndex$Parting", "bestTwo", "(LClauseIndex$State;I)V"⟩ : Cond) ∈ mgw := mgw_in (mtin_5 (List.mem_of_getElem? (i := 3) (by decide +kernel))) (by decide +kernel)
set_option maxRecDepth 20000 in
theorem wd_497 : (Cond.methodLink "ClauseIndex" 310 ⟨"ClauseIndex$Parting", "leftByTwo", "()I"⟩ : Cond) ∈ mgw := mgw_in (mtin_5 (List.mem_of_getElem? (i := 5) (by decide +kernel))) (by decide +kernel)
set_option maxRecDepth 20000 in
theorem wd_498 : (Cond.instanceMethod ⟨"ClauseIndex$Parting", "leftByTwo", "()I"⟩ : Cond) ∈ mgw := mgw_in (mtin_5 (List.mem_of_getElem? (i := 6) (by decide +kernel))) (by decide +kernel)
set_option maxRecDepth 20000 in
theorem wd_499 : (Cond.selects "ClauseIndex$Parting" ⟨"ClauseIndex$Parting", "leftByTwo", "()I"⟩ ⟨"ClauseIndex$Parting", "leftByTwo", "()I"⟩ : Cond) ∈ mgw := mgw_in (mtin_5 (List.mem_of_getElem? (i := 7) (by decide +kernel))) (by decide +kernel)
set_option maxRecDepth 20000 in
theorem wd_500 : (Cond.methodLink "ClauseIndex" 313 ⟨"ClauseIndex$Parting", "lowerOfTwo", "()I"⟩ : Cond) ∈ mgw := mgw_in (mtin_5 (List.mem_of_getElem? (i := 9) (by decide +kernel))) (by decide +kernel)
set_option maxRecDepth 20000 in
theorem wd_501 : (Cond.instanceMethod ⟨"ClauseIndex$Parting", "lowerOfTwo", "()I"⟩ : Cond) ∈ mgw := mgw_in (mtin_5 (List.mem_of_getElem? (i := 10) (by decide +kernel))) (by decide +kernel)
set_option maxRecDepth 20000 in
theorem wd_502 : (Cond.selects "ClauseIndex$Parting" ⟨"ClauseIndex$Parting", "lowerOfTwo", "()I"⟩ ⟨"ClauseIndex$Parting", "lowerOfTwo", "()I"⟩ : Cond) ∈ mgw := mgw_in (mtin_5 (List.mem_of_getElem? (i := 11) (by decide +kernel))) (by decide +kernel)
set_option maxRecDepth 20000 in
theorem wd_503 : (Cond.methodLink "ClauseIndex" 316 ⟨"ClauseIndex$Parting", "higherOfTwo", "()I"⟩ : Cond) ∈ mgw := mgw_in (mtin_5 (List.mem_of_getElem? (i := 13) (by decide +kernel))) (by decide +kernel)
set_option maxRecDepth 20000 in
theorem wd_504 : (Cond.instanceMethod ⟨"ClauseIndex$Parting", "higherOfTwo", "()I"⟩ : Cond) ∈ mgw := mgw_in (mtin_5 (List.mem_of_getElem? (i := 14) (by decide +kernel))) (by decide +kernel)
set_option maxRecDepth 20000 in
theorem wd_505 : (Cond.selects "ClauseIndex$Parting" ⟨"ClauseIndex$Parting", "higherOfTwo", "()I"⟩ ⟨"ClauseIndex$Parting", "higherOfTwo", "()I"⟩ : Cond) ∈ mgw := mgw_in (mtin_5 (List.mem_of_getElem? (i := 15) (by decide +kernel))) (by decide +kernel)
set_option maxRecDepth 20000 in
theorem wd_506 : (Cond.methodLink "ClauseIndex" 319 ⟨"ClauseIndex$Relation", "spareOnes", "()I"⟩ : Cond) ∈ mgw := mgw_in (mtin_5 (List.mem_of_getElem? (i := 21) (by decide +kernel))) (by decide +kernel)
set_option maxRecDepth 20000 in
theorem wd_507 : (Cond.instanceMethod ⟨"ClauseIndex$Relation", "spareOnes", "()I"⟩ : Cond) ∈ mgw := mgw_in (mtin_5 (List.mem_of_getElem? (i := 22) (by decide +kernel))) (by decide +kernel)
set_option maxRecDepth 20000 in
theorem wd_508 : (Cond.selects "ClauseIndex$Relation" ⟨"ClauseIndex$Relation", "spareOnes", "()I"⟩ ⟨"ClauseIndex$Relation", "spareOnes", "()I"⟩ : Cond) ∈ mgw := mgw_in (mtin_5 (List.mem_of_getElem? (i := 23) (by decide +kernel))) (by decide +kernel)
set_option maxRecDepth 20000 in
theorem wd_509 : (Cond.methodLink "ClauseIndex" 322 ⟨"ClauseIndex$State", "drop", "(I)V"⟩ : Cond) ∈ mgw := mgw_in (mtin_5 (List.mem_of_getElem? (i := 29) (by decide +kernel))) (by decide +kernel)
set_option maxRecDepth 20000 in
theorem wd_510 : (Cond.instanceMethod ⟨"ClauseIndex$State", "drop", "(I)V"⟩ : Cond) ∈ mgw := mgw_in (mtin_5 (List.mem_of_getElem? (i := 30) (by decide +kernel))) (by decide +kernel)
set_option maxRecDepth 20000 in
theorem wd_511 : (Cond.selects "ClauseIndex$State" ⟨"ClauseIndex$State", "drop", "(I)V"⟩ ⟨"ClauseIndex$State", "drop", "(I)V"⟩ : Cond) ∈ mgw := mgw_in (mtin_5 (List.mem_of_getElem? (i := 31) (by decide +kernel))) (by decide +kernel)
set_option maxRecDepth 20000 in
theorem wd_512 : (Cond.methodLink "ClauseIndex" 325 ⟨"ClauseIndex", "forgetRelations", "()V"⟩ : Cond) ∈ mgw := mgw_in (mtin_2 (List.mem_of_getElem? (i := 199) (by decide +kernel))) (by decide +kernel)
set_option maxRecDepth 20000 in
theorem wd_513 : (Cond.instanceMethod ⟨"ClauseIndex", "forgetRelations", "()V"⟩ : Cond) ∈ mgw := mgw_in (mtin_2 (List.mem_of_getElem? (i := 201) (by decide +kernel))) (by decide +kernel)
theorem wd_514 : (Cond.selects "ClauseIndex" ⟨"ClauseIndex", "forgetRelations", "()V"⟩ ⟨"ClauseIndex", "forgetRelations", "()V"⟩ : Cond) ∈ mgw := mgw_in (List.mem_append_left _ (List.mem_of_getElem? (i := 9) (by decide +kernel))) (by decide +kernel)
set_option maxRecDepth 20000 in
theorem wd_515 : (Cond.methodLink "ClauseIndex" 328 ⟨"ClauseIndex$Relation", "mostGeneral", "()I"⟩ : Cond) ∈ mgw := mgw_in (mtin_5 (List.mem_of_getElem? (i := 37) (by decide +kernel))) (by decide +kernel)
set_option maxRecDepth 20000 in
theorem wd_516 : (Cond.instanceMethod ⟨"ClauseIndex$Relation", "mostGeneral", "()I"⟩ : Cond) ∈ mgw := mgw_in (mtin_5 (List.mem_of_getElem? (i := 38) (by decide +kernel))) (by decide +kernel)
set_option maxRecDepth 20000 in
theorem wd_517 : (Cond.selects "ClauseIndex$Relation" ⟨"ClauseIndex$Relation", "mostGeneral", "()I"⟩ ⟨"ClauseIndex$Relation", "mostGeneral", "()I"⟩ : Cond) ∈ mgw := mgw_in (mtin_5 (List.mem_of_getElem? (i := 39) (by decide +kernel))) (by decide +kernel)
set_option maxRecDepth 20000 in
theorem wd_518 : (Cond.methodLink "ClauseIndex" 331 ⟨"ClauseIndex$Relation", "layLongestRow", "()I"⟩ : Cond) ∈ mgw := mgw_in (mtin_5 (List.mem_of_getElem? (i := 45) (by decide +kernel))) (by decide +kernel)
set_option maxRecDepth 20000 in
theorem wd_519 : (Cond.instanceMethod ⟨"ClauseIndex$Relation", "layLongestRow", "()I"⟩ : Cond) ∈ mgw := mgw_in (mtin_5 (List.mem_of_getElem? (i := 46) (by decide +kernel))) (by decide +kernel)
set_option maxRecDepth 20000 in
theorem wd_520 : (Cond.selects "ClauseIndex$Relation" ⟨"ClauseIndex$Relation", "layLongestRow", "()I"⟩ ⟨"ClauseIndex$Relation", "layLongestRow", "()I"⟩ : Cond) ∈ mgw := mgw_in (mtin_5 (List.mem_of_getElem? (i := 47) (by decide +kernel))) (by decide +kernel)
set_option maxRecDepth 20000 in
theorem wd_521 : (Cond.methodLink "ClauseIndex" 334 ⟨"ClauseIndex$Relation", "inRow", "(I)I"⟩ : Cond) ∈ mgw := mgw_in (mtin_5 (List.mem_of_getElem? (i := 57) (by decide +kernel))) (by decide +kernel)
set_option maxRecDepth 20000 in
theorem wd_522 : (Cond.instanceMethod ⟨"ClauseIndex$Relation", "inRow", "(I)I"⟩ : Cond) ∈ mgw := mgw_in (mtin_5 (List.mem_of_getElem? (i := 58) (by decide +kernel))) (by decide +kernel)
set_option maxRecDepth 20000 in
theorem wd_523 : (Cond.selects "ClauseIndex$Relation" ⟨"ClauseIndex$Relation", "inRow", "(I)I"⟩ ⟨"ClauseIndex$Relation", "inRow", "(I)I"⟩ : Cond) ∈ mgw := mgw_in (mtin_5 (List.mem_of_getElem? (i := 59) (by decide +kernel))) (by decide +kernel)
set_option maxRecDepth 20000 in
theorem wd_524 : (Cond.methodLink "ClauseIndex" 337 ⟨"ClauseIndex$Relation", "classes", "()I"⟩ : Cond) ∈ mgw := mgw_in (mtin_5 (List.mem_of_getElem? (i := 65) (by decide +kernel))) (by decide +kernel)
set_option maxRecDepth 20000 in
theorem wd_525 : (Cond.instanceMethod ⟨"ClauseIndex$Relation", "classes", "()I"⟩ : Cond) ∈ mgw := mgw_in (mtin_5 (List.mem_of_getElem? (i := 66) (by decide +kernel))) (by decide +kernel)
set_option maxRecDepth 20000 in
theorem wd_526 : (Cond.selects "ClauseIndex$Relation" ⟨"ClauseIndex$Relation", "classes", "()I"⟩ ⟨"ClauseIndex$Relation", "classes", "()I"⟩ : Cond) ∈ mgw := mgw_in (mtin_5 (List.mem_of_getElem? (i := 67) (by decide +kernel))) (by decide +kernel)
set_option maxRecDepth 20000 in
theorem wd_527 : (Cond.methodLink "ClauseIndex" 340 ⟨"ClauseIndex", "isDouble", "(I)Z"⟩ : Cond) ∈ mgw := mgw_in (mtin_5 (List.mem_of_getElem? (i := 73) (by decide +kernel))) (by decide +kernel)
set_option maxRecDepth 20000 in
theorem wd_528 : (Cond.instanceMethod ⟨"ClauseIndex", "isDouble", "(I)Z"⟩ : Cond) ∈ mgw := mgw_in (mtin_5 (List.mem_of_getElem? (i := 75) (by decide +kernel))) (by decide +kernel)
theorem wd_529 : (Cond.selects "ClauseIndex" ⟨"ClauseIndex", "isDouble", "(I)Z"⟩ ⟨"ClauseIndex", "isDouble", "(I)Z"⟩ : Cond) ∈ mgw := mgw_in (List.mem_append_left _ (List.mem_of_getElem? (i := 34) (by decide +kernel))) (by decide +kernel)
set_option maxRecDepth 20000 in
theorem wd_530 : (Cond.methodLink "ClauseIndex" 343 ⟨"ClauseIndex$History", "size", "()I"⟩ : Cond) ∈ mgw := mgw_in (mtin_5 (List.mem_of_getElem? (i := 81) (by decide +kernel))) (by decide +kernel)
set_option maxRecDepth 20000 in
theorem wd_531 : (Cond.instanceMethod ⟨"ClauseIndex$History", "size", "()I"⟩ : Cond) ∈ mgw := mgw_in (mtin_5 (List.mem_of_getElem? (i := 82) (by decide +kernel))) (by decide +kernel)
set_option maxRecDepth 20000 in
theorem wd_532 : (Cond.selects "ClauseIndex$History" ⟨"ClauseIndex$History", "size", "()I"⟩ ⟨"ClauseIndex$History", "size", "()I"⟩ : Cond) ∈ mgw := mgw_in (mtin_5 (List.mem_of_getElem? (i := 83) (by decide +kernel))) (by decide +kernel)
set_option maxRecDepth 20000 in
theorem wd_533 : (Cond.methodLink "ClauseIndex" 344 ⟨"ClauseIndex$History", "goBack", "(ILClauseIndex$State;)V"⟩ : Cond) ∈ mgw := mgw_in (mtin_5 (List.mem_of_getElem? (i := 85) (by decide +kernel))) (by decide +kernel)
set_option maxRecDepth 20000 in
theorem wd_534 : (Cond.instanceMethod ⟨"ClauseIndex$History", "goBack", "(ILClauseIndex$State;)V"⟩ : Cond) ∈ mgw := mgw_in (mtin_5 (List.mem_of_getElem? (i := 86) (by decide +kernel))) (by decide +kernel)
set_option maxRecDepth 20000 in
theorem wd_535 : (Cond.selects "ClauseIndex$History" ⟨"ClauseIndex$History", "goBack", "(ILClauseIndex$State;)V"⟩ ⟨"ClauseIndex$History", "goBack", "(ILClauseIndex$State;)V"⟩ : Cond) ∈ mgw := mgw_in (mtin_5 (List.mem_of_getElem? (i := 87) (by decide +kernel))) (by decide +kernel)
set_option maxRecDepth 20000 in
theorem wd_536 : (Cond.methodLink "ClauseIndex" 348 ⟨"ClauseIndex$State", "copy", "(LClauseIndex$State;)V"⟩ : Cond) ∈ mgw := mgw_in (mtin_5 (List.mem_of_getElem? (i := 93) (by decide +kernel))) (by decide +kernel)
set_option maxRecDepth 20000 in
theorem wd_537 : (Cond.methodLink "ClauseIndex" 351 ⟨"ClauseIndex$History", "forget", "()V"⟩ : Cond) ∈ mgw := mgw_in (mtin_5 (List.mem_of_getElem? (i := 98) (by decide +kernel))) (by decide +kernel)
set_option maxRecDepth 20000 in
theorem wd_538 : (Cond.instanceMethod ⟨"ClauseIndex$History", "forget", "()V"⟩ : Cond) ∈ mgw := mgw_in (mtin_5 (List.mem_of_getElem? (i := 99) (by decide +kernel))) (by decide +kernel)
set_option maxRecDepth 20000 in
theorem wd_539 : (Cond.selects "ClauseIndex$History" ⟨"ClauseIndex$History", "forget", "()V"⟩ ⟨"ClauseIndex$History", "forget", "()V"⟩ : Cond) ∈ mgw := mgw_in (mtin_5 (List.mem_of_getElem? (i := 100) (by decide +kernel))) (by decide +kernel)
set_option maxRecDepth 20000 in
theorem wd_540 : (Cond.methodLink "ClauseIndex" 354 ⟨"ClauseIndex$State", "store", "(ILClauseIndex$Clause;)V"⟩ : Cond) ∈ mgw := mgw_in (mtin_2 (List.mem_of_getElem? (i := 195) (by decide +kernel))) (by decide +kernel)
set_option maxRecDepth 20000 in
theorem wd_541 : (Cond.instanceMethod ⟨"ClauseIndex$State", "store", "(ILClauseIndex$Clause;)V"⟩ : Cond) ∈ mgw := mgw_in (mtin_2 (List.mem_of_getElem? (i := 196) (by decide +kernel))) (by decide +kernel)
set_option maxRecDepth 20000 in
theorem wd_542 : (Cond.selects "ClauseIndex$State" ⟨"ClauseIndex$State", "store", "(ILClauseIndex$Clause;)V"⟩ ⟨"ClauseIndex$State", "store", "(ILClauseIndex$Clause;)V"⟩ : Cond) ∈ mgw := mgw_in (mtin_2 (List.mem_of_getElem? (i := 197) (by decide +kernel))) (by decide +kernel)
set_option maxRecDepth 20000 in
theorem wd_543 : (Cond.methodLink "ClauseIndex" 357 ⟨"ClauseIndex$State", "isOrder", "([II)Z"⟩ : Cond) ∈ mgw := mgw_in (mtin_4 (List.mem_of_getElem? (i := 26) (by decide +kernel))) (by decide +kernel)
set_option maxRecDepth 20000 in
theorem wd_544 : (Cond.instanceMethod ⟨"ClauseIndex$State", "isOrder", "([II)Z"⟩ : Cond) ∈ mgw := mgw_in (mtin_4 (List.mem_of_getElem? (i := 27) (by decide +kernel))) (by decide +kernel)
set_option maxRecDepth 20000 in
theorem wd_545 : (Cond.selects "ClauseIndex$State" ⟨"ClauseIndex$State", "isOrder", "([II)Z"⟩ ⟨"ClauseIndex$State", "isOrder", "([II)Z"⟩ : Cond) ∈ mgw := mgw_in (mtin_4 (List.mem_of_getElem? (i := 28) (by decide +kernel))) (by decide +kernel)
set_option maxRecDepth 20000 in
theorem wd_546 : (Cond.methodLink "ClauseIndex" 361 ⟨"ClauseIndex$State", "layAll", "([II)V"⟩ : Cond) ∈ mgw := mgw_in (mtin_4 (List.mem_of_getElem? (i := 30) (by decide +kernel))) (by decide +kernel)
set_option maxRecDepth 20000 in
theorem wd_547 : (Cond.instanceMethod ⟨"ClauseIndex$State", "layAll", "([II)V"⟩ : Cond) ∈ mgw := mgw_in (mtin_4 (List.mem_of_getElem? (i := 31) (by decide +kernel))) (by decide +kernel)
set_option maxRecDepth 20000 in
theorem wd_548 : (Cond.selects "ClauseIndex$State" ⟨"ClauseIndex$State", "layAll", "([II)V"⟩ ⟨"ClauseIndex$State", "layAll", "([II)V"⟩ : Cond) ∈ mgw := mgw_in (mtin_4 (List.mem_of_getElem? (i := 32) (by decide +kernel))) (by decide +kernel)
set_option maxRecDepth 20000 in
theorem wd_549 : (Cond.methodLink "ClauseIndex" 365 ⟨"ClauseIndex$Relation", "forget", "()V"⟩ : Cond) ∈ mgw := mgw_in (mtin_2 (List.mem_of_getElem? (i := 203) (by decide +kernel))) (by decide +kernel)
set_option maxRecDepth 20000 in
theorem wd_550 : (Cond.instanceMethod ⟨"ClauseIndex$Relation", "forget", "()V"⟩ : Cond) ∈ mgw := mgw_in (mtin_2 (List.mem_of_getElem? (i := 204) (by decide +kernel))) (by decide +kernel)
set_option maxRecDepth 20000 in
theorem wd_551 : (Cond.selects "ClauseIndex$Relation" ⟨"ClauseIndex$Relation", "forget", "()V"⟩ ⟨"ClauseIndex$Relation", "forget", "()V"⟩ : Cond) ∈ mgw := mgw_in (mtin_2 (List.mem_of_getElem? (i := 205) (by decide +kernel))) (by decide +kernel)
set_option maxRecDepth 20000 in
theorem wd_552 : (Cond.methodLink "ClauseIndex" 366 ⟨"ClauseIndex$Relation", "isKnown", "()Z"⟩ : Cond) ∈ mgw := mgw_in (mtin_4 (List.mem_of_getElem? (i := 211) (by decide +kernel))) (by decide +kernel)
set_option maxRecDepth 20000 in
theorem wd_553 : (Cond.instanceMethod ⟨"ClauseIndex$Relation", "isKnown", "()Z"⟩ : Cond) ∈ mgw := mgw_in (mtin_4 (List.mem_of_getElem? (i := 212) (by decide +kernel))) (by decide +kernel)
set_option maxRecDepth 20000 in
theorem wd_554 : (Cond.selects "ClauseIndex$Relation" ⟨"ClauseIndex$Relation", "isKnown", "()Z"⟩ ⟨"ClauseIndex$Relation", "isKnown", "()Z"⟩ : Cond) ∈ mgw := mgw_in (mtin_4 (List.mem_of_getElem? (i := 213) (by decide +kernel))) (by decide +kernel)
set_option maxRecDepth 20000 in
theorem wd_555 : (Cond.methodLink "ClauseIndex" 370 ⟨"ClauseIndex$Relation", "begin", "(I)V"⟩ : Cond) ∈ mgw := mgw_in (mtin_4 (List.mem_of_getElem? (i := 215) (by decide +kernel))) (by decide +kernel)
set_option maxRecDepth 20000 in
theorem wd_556 : (Cond.instanceMethod ⟨"ClauseIndex$Relation", "begin", "(I)V"⟩ : Cond) ∈ mgw := mgw_in (mtin_4 (List.mem_of_getElem? (i := 216) (by decide +kernel))) (by decide +kernel)
set_option maxRecDepth 20000 in
theorem wd_557 : (Cond.selects "ClauseIndex$Relation" ⟨"ClauseIndex$Relation", "begin", "(I)V"⟩ ⟨"ClauseIndex$Relation", "begin", "(I)V"⟩ : Cond) ∈ mgw := mgw_in (mtin_4 (List.mem_of_getElem? (i := 217) (by decide +kernel))) (by decide +kernel)
set_option maxRecDepth 20000 in
theorem wd_558 : (Cond.methodLink "ClauseIndex" 373 ⟨"ClauseIndex$Relation", "note", "(II)V"⟩ : Cond) ∈ mgw := mgw_in (mtin_4 (List.mem_of_getElem? (i := 219) (by decide +kernel))) (by decide +kernel)
set_option maxRecDepth 20000 in
theorem wd_559 : (Cond.instanceMethod ⟨"ClauseIndex$Relation", "note", "(II)V"⟩ : Cond) ∈ mgw := mgw_in (mtin_4 (List.mem_of_getElem? (i := 220) (by decide +kernel))) (by decide +kernel)
set_option maxRecDepth 20000 in
theorem wd_560 : (Cond.selects "ClauseIndex$Relation" ⟨"ClauseIndex$Relation", "note", "(II)V"⟩ ⟨"ClauseIndex$Relation", "note", "(II)V"⟩ : Cond) ∈ mgw := mgw_in (mtin_4 (List.mem_of_getElem? (i := 221) (by decide +kernel))) (by decide +kernel)
set_option maxRecDepth 20000 in
theorem wd_561 : (Cond.methodLink "ClauseIndex" 376 ⟨"ClauseIndex$Matcher", "findsAmong", "(LClauseIndex$Clause;LClauseIndex$Clause;I)Z"⟩ : Cond) ∈ mgw := mgw_in (mtin_3 (List.mem_of_getElem? (i := 109) (by decide +kernel))) (by decide +kernel)
set_option maxRecDepth 20000 in
theorem wd_562 : (Cond.instanceMethod ⟨"ClauseIndex$Matcher", "findsAmong", "(LClauseIndex$Clause;LClauseIndex$Clause;I)Z"⟩ : Cond) ∈ mgw := mgw_in (mtin_3 (List.mem_of_getElem? (i := 110) (by decide +kernel))) (by decide +kernel)
set_option maxRecDepth 20000 in
theorem wd_563 : (Cond.selects "ClauseIndex$Matcher" ⟨"ClauseIndex$Matcher", "findsAmong", "(LClauseIndex$Clause;LClauseIndex$Clause;I)Z"⟩ ⟨"ClauseIndex$Matcher", "findsAmong", "(LClauseIndex$Clause;LClauseIndex$Clause;I)Z"⟩ : Cond) ∈ mgw := mgw_in (mtin_3 (List.mem_of_getElem? (i := 111) (by decide +kernel))) (by decide +kernel)
set_option maxRecDepth 20000 in
theorem wd_564 : (Cond.methodLink "ClauseIndex" 379 ⟨"ClauseIndex", "makeSameSymbol", "(II)I"⟩ : Cond) ∈ mgw := mgw_in (mtin_3 (List.mem_of_getElem? (i := 202) (by decide +kernel))) (by decide +kernel)
set_option maxRecDepth 20000 in
theorem wd_565 : (Cond.instanceMethod ⟨"ClauseIndex", "makeSameSymbol", "(II)I"⟩ : Cond) ∈ mgw := mgw_in (mtin_3 (List.mem_of_getElem? (i := 204) (by decide +kernel))) (by decide +kernel)
theorem wd_566 : (Cond.selects "ClauseIndex" ⟨"ClauseIndex", "makeSameSymbol", "(II)I"⟩ ⟨"ClauseIndex", "makeSameSymbol", "(II)I"⟩ : Cond) ∈ mgw := mgw_in (List.mem_append_left _ (List.mem_of_getElem? (i := 19) (by decide +kernel))) (by decide +kernel)
set_option maxRecDepth 20000 in
theorem wd_567 : (Cond.methodLink "ClauseIndex" 382 ⟨"ClauseIndex", "isVariable", "(I)Z"⟩ : Cond) ∈ mgw := mgw_in (mtin_3 (List.mem_of_getElem? (i := 206) (by decide +kernel))) (by decide +kernel)
set_option maxRecDepth 20000 in
theorem wd_568 : (Cond.methodLink "ClauseIndex" 385 ⟨"ClauseIndex", "putWithin", "(II)I"⟩ : Cond) ∈ mgw := mgw_in (mtin_3 (List.mem_of_getElem? (i := 207) (by decide +kernel))) (by decide +kernel)
set_option maxRecDepth 20000 in
theorem wd_569 : (Cond.instanceMethod ⟨"ClauseIndex", "putWithin", "(II)I"⟩ : Cond) ∈ mgw := mgw_in (mtin_3 (List.mem_of_getElem? (i := 209) (by decide +kernel))) (by decide +kernel)
theorem wd_570 : (Cond.selects "ClauseIndex" ⟨"ClauseIndex", "putWithin", "(II)I"⟩ ⟨"ClauseIndex", "putWithin", "(II)I"⟩ : Cond) ∈ mgw := mgw_in (List.mem_append_left _ (List.mem_of_getElem? (i := 20) (by decide +kernel))) (by decide +kernel)
set_option maxRecDepth 20000 in
theorem wd_571 : (Cond.methodLink "ClauseIndex" 388 ⟨"ClauseIndex$Draft", "endOfTerm", "(I)I"⟩ : Cond) ∈ mgw := mgw_in (mtin_3 (List.mem_of_getElem? (i := 211) (by decide +kernel))) (by decide +kernel)
set_option maxRecDepth 20000 in
theorem wd_572 : (Cond.constantLong "ClauseIndex" 389 (8388608 : Int64) : Cond) ∈ mgw := mgw_in (mtin_4 (List.mem_of_getElem? (i := 235) (by decide +kernel))) (by decide +kernel)
set_option maxRecDepth 20000 in
theorem wd_573 : (Cond.constantLong "ClauseIndex" 391 (2 : Int64) : Cond) ∈ mgw := mgw_in (mtin_4 (List.mem_of_getElem? (i := 236) (by decide +kernel))) (by decide +kernel)
set_option maxRecDepth 20000 in
theorem wd_574 : (Cond.methodLink "ClauseIndexModel" 7 ⟨"java/lang/Object", "<init>", "()V"⟩ : Cond) ∈ mgw := mgw_in (mtin_5 (List.mem_of_getElem? (i := 111) (by decide +kernel))) (by decide +kernel)
set_option maxRecDepth 20000 in
theorem wd_575 : (Cond.fieldLink "ClauseIndexModel" 13 "ClauseIndexModel" "all" "[I" : Cond) ∈ mgw := mgw_in (mtin_5 (List.mem_of_getElem? (i := 113) (by decide +kernel))) (by decide +kernel)
set_option maxRecDepth 20000 in
theorem wd_576 : (Cond.fieldLink "ClauseIndexModel" 17 "ClauseIndexModel" "deeds" "[I" : Cond) ∈ mgw := mgw_in (mtin_5 (List.mem_of_getElem? (i := 114) (by decide +kernel))) (by decide +kernel)
set_option maxRecDepth 20000 in
theorem wd_577 : (Cond.arrayClass ClassFile.FieldType.boolean : Cond) ∈ mgw := mgw_in (mtin_6 (List.mem_of_getElem? (i := 17) (by decide +kernel))) (by decide +kernel)
set_option maxRecDepth 20000 in
theorem wd_578 : (Cond.fieldLink "ClauseIndexModel" 20 "ClauseIndexModel" "hasImage" "[Z" : Cond) ∈ mgw := mgw_in (mtin_5 (List.mem_of_getElem? (i := 116) (by decide +kernel))) (by decide +kernel)
set_option maxRecDepth 20000 in
theorem wd_579 : (Cond.fieldLink "ClauseIndexModel" 24 "ClauseIndexModel" "tape" "[I" : Cond) ∈ mgw := mgw_in (mtin_5 (List.mem_of_getElem? (i := 117) (by decide +kernel))) (by decide +kernel)
set_option maxRecDepth 20000 in
theorem wd_580 : (Cond.fieldLink "ClauseIndexModel" 27 "ClauseIndexModel" "read" "[I" : Cond) ∈ mgw := mgw_in (mtin_5 (List.mem_of_getElem? (i := 118) (by decide +kernel))) (by decide +kernel)
set_option maxRecDepth 20000 in
theorem wd_581 : (Cond.fieldLink "ClauseIndexModel" 30 "ClauseIndexModel" "faultPlace" "I" : Cond) ∈ mgw := mgw_in (mtin_5 (List.mem_of_getElem? (i := 127) (by decide +kernel))) (by decide +kernel)
set_option maxRecDepth 20000 in
theorem wd_582 : (Cond.fieldLink "ClauseIndexModel" 33 "ClauseIndexModel" "put" "[I" : Cond) ∈ mgw := mgw_in (mtin_5 (List.mem_of_getElem? (i := 128) (by decide +kernel))) (by decide +kernel)
set_option maxRecDepth 20000 in
theorem wd_583 : (Cond.fieldLink "ClauseIndexModel" 36 "ClauseIndexModel" "boundAt" "[I" : Cond) ∈ mgw := mgw_in (mtin_5 (List.mem_of_getElem? (i := 131) (by decide +kernel))) (by decide +kernel)
set_option maxRecDepth 20000 in
theorem wd_584 : (Cond.fieldLink "ClauseIndexModel" 39 "ClauseIndexModel" "rowNow" "[I" : Cond) ∈ mgw := mgw_in (mtin_5 (List.mem_of_getElem? (i := 132) (by decide +kernel))) (by decide +kernel)
set_option maxRecDepth 20000 in
theorem wd_585 : (Cond.fieldLink "ClauseIndexModel" 42 "ClauseIndexModel" "rowFirst" "[I" : Cond) ∈ mgw := mgw_in (mtin_5 (List.mem_of_getElem? (i := 133) (by decide +kernel))) (by decide +kernel)
set_option maxRecDepth 20000 in
theorem wd_586 : (Cond.fieldLink "ClauseIndexModel" 45 "ClauseIndexModel" "boundFirst" "[I" : Cond) ∈ mgw := mgw_in (mtin_5 (List.mem_of_getElem? (i := 134) (by decide +kernel))) (by decide +kernel)
set_option maxRecDepth 20000 in
theorem wd_587 : (Cond.fieldLink "ClauseIndexModel" 48 "ClauseIndexModel" "termNow" "[I" : Cond) ∈ mgw := mgw_in (mtin_5 (List.mem_of_getElem? (i := 143) (by decide +kernel))) (by decide +kernel)
set_option maxRecDepth 20000 in
theorem wd_588 : (Cond.fieldLink "ClauseIndexModel" 51 "ClauseIndexModel" "putWas" "[I" : Cond) ∈ mgw := mgw_in (mtin_5 (List.mem_of_getElem? (i := 144) (by decide +kernel))) (by decide +kernel)
set_option maxRecDepth 20000 in
theorem wd_589 : (Cond.fieldLink "ClauseIndexModel" 54 "ClauseIndexModel" "values" "[I" : Cond) ∈ mgw := mgw_in (mtin_5 (List.mem_of_getElem? (i := 145) (by decide +kernel))) (by decide +kernel)
set_option maxRecDepth 20000 in
theorem wd_590 : (Cond.fieldLink "ClauseIndexModel" 57 "ClauseIndexModel" "powers" "[I" : Cond) ∈ mgw := mgw_in (mtin_5 (List.mem_of_getElem? (i := 146) (by decide +kernel))) (by decide +kernel)
set_option maxRecDepth 20000 in
theorem wd_591 : (Cond.fieldLink "ClauseIndexModel" 60 "ClauseIndexModel" "chosen" "[I" : Cond) ∈ mgw := mgw_in (mtin_5 (List.mem_of_getElem? (i := 147) (by decide +kernel))) (by decide +kernel)
set_option maxRecDepth 20000 in
theorem wd_592 : (Cond.fieldLink "ClauseIndexModel" 63 "ClauseIndexModel" "sorted" "[I" : Cond) ∈ mgw := mgw_in (mtin_5 (List.mem_of_getElem? (i := 148) (by decide +kernel))) (by decide +kernel)
set_option maxRecDepth 20000 in
theorem wd_593 : (Cond.fieldLink "ClauseIndexModel" 66 "ClauseIndexModel" "above" "[I" : Cond) ∈ mgw := mgw_in (mtin_5 (List.mem_of_getElem? (i := 149) (by decide +kernel))) (by decide +kernel)
set_option maxRecDepth 20000 in
theorem wd_594 : (Cond.fieldLink "ClauseIndexModel" 69 "ClauseIndexModel" "deep" "[I" : Cond) ∈ mgw := mgw_in (mtin_5 (List.mem_of_getElem? (i := 150) (by decide +kernel))) (by decide +kernel)
set_option maxRecDepth 20000 in
theorem wd_595 : (Cond.fieldLink "ClauseIndexModel" 72 "ClauseIndexModel" "valueAt" "[I" : Cond) ∈ mgw := mgw_in (mtin_5 (List.mem_of_getElem? (i := 151) (by decide +kernel))) (by decide +kernel)
set_option maxRecDepth 20000 in
theorem wd_596 : (Cond.fieldLink "ClauseIndexModel" 75 "ClauseIndexModel" "belowMany" "[I" : Cond) ∈ mgw := mgw_in (mtin_5 (List.mem_of_getElem? (i := 152) (by decide +kernel))) (by decide +kernel)
set_option maxRecDepth 20000 in
theorem wd_597 : (Cond.fieldLink "ClauseIndexModel" 78 "ClauseIndexModel" "clauseMany" "[I" : Cond) ∈ mgw := mgw_in (mtin_5 (List.mem_of_getElem? (i := 153) (by decide +kernel))) (by decide +kernel)
set_option maxRecDepth 20000 in
theorem wd_598 : (Cond.fieldLink "ClauseIndexModel" 81 "ClauseIndexModel" "nodeOf" "[I" : Cond) ∈ mgw := mgw_in (mtin_5 (List.mem_of_getElem? (i := 154) (by decide +kernel))) (by decide +kernel)
set_option maxRecDepth 20000 in
theorem wd_599 : (Cond.fieldLink "ClauseIndexModel" 84 "ClauseIndexModel" "pathNow" "[I" : Cond) ∈ mgw := mgw_in (mtin_5 (List.mem_of_getElem? (i := 155) (by decide +kernel))) (by decide +kernel)
set_option maxRecDepth 20000 in
theorem wd_600 : (Cond.fieldLink "ClauseIndexModel" 87 "ClauseIndexModel" "isVisited" "[Z" : Cond) ∈ mgw := mgw_in (mtin_5 (List.mem_of_getElem? (i := 156) (by decide +kernel))) (by decide +kernel)
set_option maxRecDepth 20000 in
theorem wd_601 : (Cond.fieldLink "ClauseIndexModel" 90 "ClauseIndexModel" "isCovering" "[Z" : Cond) ∈ mgw := mgw_in (mtin_5 (List.mem_of_getElem? (i := 158) (by decide +kernel))) (by decide +kernel)
set_option maxRecDepth 20000 in
theorem wd_602 : (Cond.fieldLink "ClauseIndexModel" 93 "ClauseIndexModel" "chainFrom" "[I" : Cond) ∈ mgw := mgw_in (mtin_5 (List.mem_of_getElem? (i := 159) (by decide +kernel))) (by decide +kernel)
set_option maxRecDepth 20000 in
theorem wd_603 : (Cond.constantLong "ClauseIndexModel" 96 (24 : Int64) : Cond) ∈ mgw := mgw_in (mtin_6 (List.mem_of_getElem? (i := 135) (by decide +kernel))) (by decide +kernel)
set_option maxRecDepth 20000 in
theorem wd_604 : (Cond.static ⟨"ClauseIndexModel", "within", "(JJJ)Z"⟩ : Cond) ∈ mgw := mgw_in (mtin_6 (List.mem_of_getElem? (i := 27) (by decide +kernel))) (by decide +kernel)
set_option maxRecDepth 20000 in
theorem wd_605 : (Cond.initialized "ClauseIndexModel" : Cond) ∈ mgw := mgw_in (mtin_1 (List.mem_of_getElem? (i := 12) (by decide +kernel))) (by decide +kernel)
set_option maxRecDepth 20000 in
theorem wd_606 : (Cond.methodLink "ClauseIndexModel" 98 ⟨"ClauseIndexModel", "within", "(JJJ)Z"⟩ : Cond) ∈ mgw := mgw_in (mtin_6 (List.mem_of_getElem? (i := 26) (by decide +kernel))) (by decide +kernel)
set_option maxRecDepth 20000 in
theorem wd_607 : (Cond.methodLink "ClauseIndexModel" 102 ⟨"ClauseIndexModel", "isClause", "(I)Z"⟩ : Cond) ∈ mgw := mgw_in (mtin_6 (List.mem_of_getElem? (i := 131) (by decide +kernel))) (by decide +kernel)
set_option maxRecDepth 20000 in
theorem wd_608 : (Cond.instanceMethod ⟨"ClauseIndexModel", "isClause", "(I)Z"⟩ : Cond) ∈ mgw := mgw_in (mtin_6 (List.mem_of_getElem? (i := 133) (by decide +kernel))) (by decide +kernel)
theorem wd_609 : (Cond.selects "ClauseIndexModel" ⟨"ClauseIndexModel", "isClause", "(I)Z"⟩ ⟨"ClauseIndexModel", "isClause", "(I)Z"⟩ : Cond) ∈ mgw := mgw_in (List.mem_append_left _ (List.mem_of_getElem? (i := 55) (by decide +kernel))) (by decide +kernel)
set_option maxRecDepth 20000 in
theorem wd_610 : (Cond.methodLink "ClauseIndexModel" 106 ⟨"ClauseIndexModel", "codeAt", "(II)I"⟩ : Cond) ∈ mgw := mgw_in (mtin_6 (List.mem_of_getElem? (i := 103) (by decide +kernel))) (by decide +kernel)
set_option maxRecDepth 20000 in
theorem wd_611 : (Cond.instanceMethod ⟨"ClauseIndexModel", "codeAt", "(II)I"⟩ : Cond) ∈ mgw := mgw_in (mtin_6 (List.mem_of_getElem? (i := 105) (by decide +kernel))) (by decide +kernel)
theorem wd_612 : (Cond.selects "ClauseIndexModel" ⟨"ClauseIndexModel", "codeAt", "(II)I"⟩ ⟨"ClauseIndexModel", "codeAt", "(II)I"⟩ : Cond) ∈ mgw := mgw_in (List.mem_append_left _ (List.mem_of_getElem? (i := 51) (by decide +kernel))) (by decide +kernel)
set_option maxRecDepth 20000 in
theorem wd_613 : (Cond.static ⟨"ClauseIndexModel", "partsOf", "(I)I"⟩ : Cond) ∈ mgw := mgw_in (mtin_6 (List.mem_of_getElem? (i := 62) (by decide +kernel))) (by decide +kernel)
set_option maxRecDepth 20000 in
theorem wd_614 : (Cond.methodLink "ClauseIndexModel" 110 ⟨"ClauseIndexModel", "partsOf", "(I)I"⟩ : Cond) ∈ mgw := mgw_in (mtin_6 (List.mem_of_getElem? (i := 61) (by decide +kernel))) (by decide +kernel)
set_option maxRecDepth 20000 in
theorem wd_615 : (Cond.methodLink "ClauseIndexModel" 114 ⟨"ClauseIndexModel", "longOf", "(I)I"⟩ : Cond) ∈ mgw := mgw_in (mtin_6 (List.mem_of_getElem? (i := 99) (by decide +kernel))) (by decide +kernel)
set_option maxRecDepth 20000 in
theorem wd_616 : (Cond.instanceMethod ⟨"ClauseIndexModel", "longOf", "(I)I"⟩ : Cond) ∈ mgw := mgw_in (mtin_6 (List.mem_of_getElem? (i := 101) (by decide +kernel))) (by decide +kernel)
theorem wd_617 : (Cond.selects "ClauseIndexModel" ⟨"ClauseIndexModel", "longOf", "(I)I"⟩ ⟨"ClauseIndexModel", "longOf", "(I)I"⟩ : Cond) ∈ mgw := mgw_in (List.mem_append_left _ (List.mem_of_getElem? (i := 50) (by decide +kernel))) (by decide +kernel)
set_option maxRecDepth 20000 in
theorem wd_618 : (Cond.fieldLink "ClauseIndexModel" 1 "ClauseIndexModel" "thrown" "I" : Cond) ∈ mgw := mgw_in (mtin_5 (List.mem_of_getElem? (i := 112) (by decide +kernel))) (by decide +kernel)
set_option maxRecDepth 20000 in
theorem wd_619 : (Cond.fieldLink "ClauseIndexModel" 117 "ClauseIndexModel" "taped" "I" : Cond) ∈ mgw := mgw_in (mtin_5 (List.mem_of_getElem? (i := 119) (by decide +kernel))) (by decide +kernel)
set_option maxRecDepth 20000 in
theorem wd_620 : (Cond.fieldLink "ClauseIndexModel" 120 "ClauseIndexModel" "at" "I" : Cond) ∈ mgw := mgw_in (mtin_5 (List.mem_of_getElem? (i := 121) (by decide +kernel))) (by decide +kernel)
set_option maxRecDepth 20000 in
theorem wd_621 : (Cond.fieldLink "ClauseIndexModel" 123 "ClauseIndexModel" "size" "I" : Cond) ∈ mgw := mgw_in (mtin_5 (List.mem_of_getElem? (i := 120) (by decide +kernel))) (by decide +kernel)
set_option maxRecDepth 20000 in
theorem wd_622 : (Cond.fieldLink "ClauseIndexModel" 126 "ClauseIndexModel" "wrong" "I" : Cond) ∈ mgw := mgw_in (mtin_5 (List.mem_of_getElem? (i := 124) (by decide +kernel))) (by decide +kernel)
set_option maxRecDepth 20000 in
theorem wd_623 : (Cond.fieldLink "ClauseIndexModel" 129 "ClauseIndexModel" "wrongAt" "I" : Cond) ∈ mgw := mgw_in (mtin_5 (List.mem_of_getElem? (i := 125) (by decide +kernel))) (by decide +kernel)
set_option maxRecDepth 20000 in
theorem wd_624 : (Cond.methodLink "ClauseIndexModel" 132 ⟨"ClauseIndexModel", "see", "()I"⟩ : Cond) ∈ mgw := mgw_in (mtin_6 (List.mem_of_getElem? (i := 49) (by decide +kernel))) (by decide +kernel)
set_option maxRecDepth 20000 in
theorem wd_625 : (Cond.instanceMethod ⟨"ClauseIndexModel", "see", "()I"⟩ : Cond) ∈ mgw := mgw_in (mtin_6 (List.mem_of_getElem? (i := 51) (by decide +kernel))) (by decide +kernel)
theorem wd_626 : (Cond.selects "ClauseIndexModel" ⟨"ClauseIndexModel", "see", "()I"⟩ ⟨"ClauseIndexModel", "see", "()I"⟩ : Cond) ∈ mgw := mgw_in (List.mem_append_left _ (List.mem_of_getElem? (i := 40) (by decide +kernel))) (by decide +kernel)
set_option maxRecDepth 20000 in
theorem wd_627 : (Cond.methodLink "ClauseIndexModel" 136 ⟨"ClauseIndexModel", "eats", "(I)Z"⟩ : Cond) ∈ mgw := mgw_in (mtin_6 (List.mem_of_getElem? (i := 45) (by decide +kernel))) (by decide +kernel)
set_option maxRecDepth 20000 in
theorem wd_628 : (Cond.instanceMethod ⟨"ClauseIndexModel", "eats", "(I)Z"⟩ : Cond) ∈ mgw := mgw_in (mtin_6 (List.mem_of_getElem? (i := 47) (by decide +kernel))) (by decide +kernel)
theorem wd_629 : (Cond.selects "ClauseIndexModel" ⟨"ClauseIndexModel", "eats", "(I)Z"⟩ ⟨"ClauseIndexModel", "eats", "(I)Z"⟩ : Cond) ∈ mgw := mgw_in (List.mem_append_left _ (List.mem_of_getElem? (i := 39) (by decide +kernel))) (by decide +kernel)
set_option maxRecDepth 20000 in
theorem wd_630 : (Cond.methodLink "ClauseIndexModel" 139 ⟨"ClauseIndexModel", "fails", "(I)V"⟩ : Cond) ∈ mgw := mgw_in (mtin_6 (List.mem_of_getElem? (i := 53) (by decide +kernel))) (by decide +kernel)
set_option maxRecDepth 20000 in
theorem wd_631 : (Cond.instanceMethod ⟨"ClauseIndexModel", "fails", "(I)V"⟩ : Cond) ∈ mgw := mgw_in (mtin_6 (List.mem_of_getElem? (i := 55) (by decide +kernel))) (by decide +kernel)
theorem wd_632 : (Cond.selects "ClauseIndexModel" ⟨"ClauseIndexModel", "fails", "(I)V"⟩ ⟨"ClauseIndexModel", "fails", "(I)V"⟩ : Cond) ∈ mgw := mgw_in (List.mem_append_left _ (List.mem_of_getElem? (i := 41) (by decide +kernel))) (by decide +kernel)
set_option maxRecDepth 20000 in
theorem wd_633 : (Cond.fieldLink "ClauseIndexModel" 143 "ClauseIndexModel" "readMany" "I" : Cond) ∈ mgw := mgw_in (mtin_5 (List.mem_of_getElem? (i := 122) (by decide +kernel))) (by decide +kernel)
set_option maxRecDepth 20000 in
theorem wd_634 : (Cond.fieldLink "ClauseIndexModel" 146 "ClauseIndexModel" "depth" "I" : Cond) ∈ mgw := mgw_in (mtin_5 (List.mem_of_getElem? (i := 123) (by decide +kernel))) (by decide +kernel)
set_option maxRecDepth 20000 in
theorem wd_635 : (Cond.static ⟨"ClauseIndexModel", "termCode", "(I)I"⟩ : Cond) ∈ mgw := mgw_in (mtin_6 (List.mem_of_getElem? (i := 77) (by decide +kernel))) (by decide +kernel)
set_option maxRecDepth 20000 in
theorem wd_636 : (Cond.methodLink "ClauseIndexModel" 149 ⟨"ClauseIndexModel", "termCode", "(I)I"⟩ : Cond) ∈ mgw := mgw_in (mtin_6 (List.mem_of_getElem? (i := 76) (by decide +kernel))) (by decide +kernel)
set_option maxRecDepth 20000 in
theorem wd_637 : (Cond.methodLink "ClauseIndexModel" 152 ⟨"ClauseIndexModel", "lays", "(I)V"⟩ : Cond) ∈ mgw := mgw_in (mtin_6 (List.mem_of_getElem? (i := 57) (by decide +kernel))) (by decide +kernel)
set_option maxRecDepth 20000 in
theorem wd_638 : (Cond.instanceMethod ⟨"ClauseIndexModel", "lays", "(I)V"⟩ : Cond) ∈ mgw := mgw_in (mtin_6 (List.mem_of_getElem? (i := 59) (by decide +kernel))) (by decide +kernel)
theorem wd_639 : (Cond.selects "ClauseIndexModel" ⟨"ClauseIndexModel", "lays", "(I)V"⟩ ⟨"ClauseIndexModel", "lays", "(I)V"⟩ : Cond) ∈ mgw := mgw_in (List.mem_append_left _ (List.mem_of_getElem? (i := 42) (by decide +kernel))) (by decide +kernel)
set_option maxRecDepth 20000 in
theorem wd_640 : (Cond.methodLink "ClauseIndexModel" 155 ⟨"ClauseIndexModel", "readParts", "(I)V"⟩ : Cond) ∈ mgw := mgw_in (mtin_6 (List.mem_of_getElem? (i := 64) (by decide +kernel))) (by decide +kernel)
set_option maxRecDepth 20000 in
theorem wd_641 : (Cond.instanceMethod ⟨"ClauseIndexModel", "readParts", "(I)V"⟩ : Cond) ∈ mgw := mgw_in (mtin_6 (List.mem_of_getElem? (i := 66) (by decide +kernel))) (by decide +kernel)
theorem wd_642 : (Cond.selects "ClauseIndexModel" ⟨"ClauseIndexModel", "readParts", "(I)V"⟩ ⟨"ClauseIndexModel", "readParts", "(I)V"⟩ : Cond) ∈ mgw := mgw_in (List.mem_append_left _ (List.mem_of_getElem? (i := 43) (by decide +kernel))) (by decide +kernel)
set_option maxRecDepth 20000 in
theorem wd_643 : (Cond.methodLink "ClauseIndexModel" 158 ⟨"ClauseIndexModel", "wants", "(I)V"⟩ : Cond) ∈ mgw := mgw_in (mtin_6 (List.mem_of_getElem? (i := 68) (by decide +kernel))) (by decide +kernel)
set_option maxRecDepth 20000 in
theorem wd_644 : (Cond.instanceMethod ⟨"ClauseIndexModel", "wants", "(I)V"⟩ : Cond) ∈ mgw := mgw_in (mtin_6 (List.mem_of_getElem? (i := 70) (by decide +kernel))) (by decide +kernel)
theorem wd_645 : (Cond.selects "ClauseIndexModel" ⟨"ClauseIndexModel", "wants", "(I)V"⟩ ⟨"ClauseIndexModel", "wants", "(I)V"⟩ : Cond) ∈ mgw := mgw_in (List.mem_append_left _ (List.mem_of_getElem? (i := 44) (by decide +kernel))) (by decide +kernel)
set_option maxRecDepth 20000 in
theorem wd_646 : (Cond.methodLink "ClauseIndexModel" 161 ⟨"ClauseIndexModel", "readTerm", "()V"⟩ : Cond) ∈ mgw := mgw_in (mtin_6 (List.mem_of_getElem? (i := 72) (by decide +kernel))) (by decide +kernel)
set_option maxRecDepth 20000 in
theorem wd_647 : (Cond.instanceMethod ⟨"ClauseIndexModel", "readTerm", "()V"⟩ : Cond) ∈ mgw := mgw_in (mtin_6 (List.mem_of_getElem? (i := 74) (by decide +kernel))) (by decide +kernel)
theorem wd_648 : (Cond.selects "ClauseIndexModel" ⟨"ClauseIndexModel", "readTerm", "()V"⟩ ⟨"ClauseIndexModel", "readTerm", "()V"⟩ : Cond) ∈ mgw := mgw_in (List.mem_append_left _ (List.mem_of_getElem? (i := 45) (by decide +kernel))) (by decide +kernel)
set_option maxRecDepth 20000 in
theorem wd_649 : (Cond.fieldLink "ClauseIndexModel" 164 "ClauseIndexModel" "faultKind" "I" : Cond) ∈ mgw := mgw_in (mtin_5 (List.mem_of_getElem? (i := 126) (by decide +kernel))) (by decide +kernel)
set_option maxRecDepth 20000 in
theorem wd_650 : (Cond.methodLink "ClauseIndexModel" 167 ⟨"ClauseIndexModel", "begins", "(I)V"⟩ : Cond) ∈ mgw := mgw_in (mtin_6 (List.mem_of_getElem? (i := 37) (by decide +kernel))) (by decide +kernel)
set_option maxRecDepth 20000 in
theorem wd_651 : (Cond.instanceMethod ⟨"ClauseIndexModel", "begins", "(I)V"⟩ : Cond) ∈ mgw := mgw_in (mtin_6 (List.mem_of_getElem? (i := 39) (by decide +kernel))) (by decide +kernel)
theorem wd_652 : (Cond.selects "ClauseIndexModel" ⟨"ClauseIndexModel", "begins", "(I)V"⟩ ⟨"ClauseIndexModel", "begins", "(I)V"⟩ : Cond) ∈ mgw := mgw_in (List.mem_append_left _ (List.mem_of_getElem? (i := 37) (by decide +kernel))) (by decide +kernel)
set_option maxRecDepth 20000 in
theorem wd_653 : (Cond.methodLink "ClauseIndexModel" 170 ⟨"ClauseIndexModel", "readLiteral", "()V"⟩ : Cond) ∈ mgw := mgw_in (mtin_6 (List.mem_of_getElem? (i := 41) (by decide +kernel))) (by decide +kernel)
set_option maxRecDepth 20000 in
theorem wd_654 : (Cond.instanceMethod ⟨"ClauseIndexModel", "readLiteral", "()V"⟩ : Cond) ∈ mgw := mgw_in (mtin_6 (List.mem_of_getElem? (i := 43) (by decide +kernel))) (by decide +kernel)
theorem wd_655 : (Cond.selects "ClauseIndexModel" ⟨"ClauseIndexModel", "readLiteral", "()V"⟩ ⟨"ClauseIndexModel", "readLiteral", "()V"⟩ : Cond) ∈ mgw := mgw_in (List.mem_append_left _ (List.mem_of_getElem? (i := 38) (by decide +kernel))) (by decide +kernel)
set_option maxRecDepth 20000 in
theorem wd_656 : (Cond.methodLink "ClauseIndexModel" 173 ⟨"ClauseIndexModel", "ends", "()V"⟩ : Cond) ∈ mgw := mgw_in (mtin_6 (List.mem_of_getElem? (i := 79) (by decide +kernel))) (by decide +kernel)
set_option maxRecDepth 20000 in
theorem wd_657 : (Cond.instanceMethod ⟨"ClauseIndexModel", "ends", "()V"⟩ : Cond) ∈ mgw := mgw_in (mtin_6 (List.mem_of_getElem? (i := 81) (by decide +kernel))) (by decide +kernel)
theorem wd_658 : (Cond.selects "ClauseIndexModel" ⟨"ClauseIndexModel", "ends", "()V"⟩ ⟨"ClauseIndexModel", "ends", "()V"⟩ : Cond) ∈ mgw := mgw_in (List.mem_append_left _ (List.mem_of_getElem? (i := 46) (by decide +kernel))) (by decide +kernel)
set_option maxRecDepth 20000 in
theorem wd_659 : (Cond.methodLink "ClauseIndexModel" 176 ⟨"ClauseIndexModel", "lowestFree", "()I"⟩ : Cond) ∈ mgw := mgw_in (mtin_6 (List.mem_of_getElem? (i := 29) (by decide +kernel))) (by decide +kernel)
set_option maxRecDepth 20000 in
theorem wd_660 : (Cond.instanceMethod ⟨"ClauseIndexModel", "lowestFree", "()I"⟩ : Cond) ∈ mgw := mgw_in (mtin_6 (List.mem_of_getElem? (i := 31) (by decide +kernel))) (by decide +kernel)
theorem wd_661 : (Cond.selects "ClauseIndexModel" ⟨"ClauseIndexModel", "lowestFree", "()I"⟩ ⟨"ClauseIndexModel", "lowestFree", "()I"⟩ : Cond) ∈ mgw := mgw_in (List.mem_append_left _ (List.mem_of_getElem? (i := 35) (by decide +kernel))) (by decide +kernel)
set_option maxRecDepth 20000 in
theorem wd_662 : (Cond.methodLink "ClauseIndexModel" 179 ⟨"ClauseIndexModel", "readsClause", "(I)V"⟩ : Cond) ∈ mgw := mgw_in (mtin_6 (List.mem_of_getElem? (i := 33) (by decide +kernel))) (by decide +kernel)
set_option maxRecDepth 20000 in
theorem wd_663 : (Cond.instanceMethod ⟨"ClauseIndexModel", "readsClause", "(I)V"⟩ : Cond) ∈ mgw := mgw_in (mtin_6 (List.mem_of_getElem? (i := 35) (by decide +kernel))) (by decide +kernel)
theorem wd_664 : (Cond.selects "ClauseIndexModel" ⟨"ClauseIndexModel", "readsClause", "(I)V"⟩ ⟨"ClauseIndexModel", "readsClause", "(I)V"⟩ : Cond) ∈ mgw := mgw_in (List.mem_append_left _ (List.mem_of_getElem? (i := 36) (by decide +kernel))) (by decide +kernel)
set_option maxRecDepth 20000 in
theorem wd_665 : (Cond.methodLink "ClauseIndexModel" 182 ⟨"ClauseIndexModel", "notes", "()V"⟩ : Cond) ∈ mgw := mgw_in (mtin_6 (List.mem_of_getElem? (i := 83) (by decide +kernel))) (by decide +kernel)
set_option maxRecDepth 20000 in
theorem wd_666 : (Cond.instanceMethod ⟨"ClauseIndexModel", "notes", "()V"⟩ : Cond) ∈ mgw := mgw_in (mtin_6 (List.mem_of_getElem? (i := 85) (by decide +kernel))) (by decide +kernel)
theorem wd_667 : (Cond.selects "ClauseIndexModel" ⟨"ClauseIndexModel", "notes", "()V"⟩ ⟨"ClauseIndexModel", "notes", "()V"⟩ : Cond) ∈ mgw := mgw_in (List.mem_append_left _ (List.mem_of_getElem? (i := 47) (by decide +kernel))) (by decide +kernel)
set_option maxRecDepth 20000 in
theorem wd_668 : (Cond.methodLink "ClauseIndexModel" 185 ⟨"ClauseIndexModel", "keeps", "(I)V"⟩ : Cond) ∈ mgw := mgw_in (mtin_6 (List.mem_of_getElem? (i := 87) (by decide +kernel))) (by decide +kernel)
set_option maxRecDepth 20000 in
theorem wd_669 : (Cond.instanceMethod ⟨"ClauseIndexModel", "keeps", "(I)V"⟩ : Cond) ∈ mgw := mgw_in (mtin_6 (List.mem_of_getElem? (i := 89) (by decide +kernel))) (by decide +kernel)
theorem wd_670 : (Cond.selects "ClauseIndexModel" ⟨"ClauseIndexModel", "keeps", "(I)V"⟩ ⟨"ClauseIndexModel", "keeps", "(I)V"⟩ : Cond) ∈ mgw := mgw_in (List.mem_append_left _ (List.mem_of_getElem? (i := 48) (by decide +kernel))) (by decide +kernel)
set_option maxRecDepth 20000 in
theorem wd_671 : (Cond.methodLink "ClauseIndexModel" 188 ⟨"ClauseIndexModel", "literalMany", "(I)I"⟩ : Cond) ∈ mgw := mgw_in (mtin_6 (List.mem_of_getElem? (i := 95) (by decide +kernel))) (by decide +kernel)
set_option maxRecDepth 20000 in
theorem wd_672 : (Cond.instanceMethod ⟨"ClauseIndexModel", "literalMany", "(I)I"⟩ : Cond) ∈ mgw := mgw_in (mtin_6 (List.mem_of_getElem? (i := 97) (by decide +kernel))) (by decide +kernel)
theorem wd_673 : (Cond.selects "ClauseIndexModel" ⟨"ClauseIndexModel", "literalMany", "(I)I"⟩ ⟨"ClauseIndexModel", "literalMany", "(I)I"⟩ : Cond) ∈ mgw := mgw_in (List.mem_append_left _ (List.mem_of_getElem? (i := 49) (by decide +kernel))) (by decide +kernel)
set_option maxRecDepth 20000 in
theorem wd_674 : (Cond.fieldLink "ClauseIndexModel" 191 "ClauseIndexModel" "putMany" "I" : Cond) ∈ mgw := mgw_in (mtin_5 (List.mem_of_getElem? (i := 129) (by decide +kernel))) (by decide +kernel)
set_option maxRecDepth 20000 in
theorem wd_675 : (Cond.methodLink "ClauseIndexModel" 194 ⟨"ClauseIndexModel", "pastOfPut", "(I)I"⟩ : Cond) ∈ mgw := mgw_in (mtin_6 (List.mem_of_getElem? (i := 119) (by decide +kernel))) (by decide +kernel)
set_option maxRecDepth 20000 in
theorem wd_676 : (Cond.instanceMethod ⟨"ClauseIndexModel", "pastOfPut", "(I)I"⟩ : Cond) ∈ mgw := mgw_in (mtin_6 (List.mem_of_getElem? (i := 121) (by decide +kernel))) (by decide +kernel)
theorem wd_677 : (Cond.selects "ClauseIndexModel" ⟨"ClauseIndexModel", "pastOfPut", "(I)I"⟩ ⟨"ClauseIndexModel", "pastOfPut", "(I)I"⟩ : Cond) ∈ mgw := mgw_in (List.mem_append_left _ (List.mem_of_getElem? (i := 54) (by decide +kernel))) (by decide +kernel)
set_option maxRecDepth 20000 in
theorem wd_678 : (Cond.fieldLink "ClauseIndexModel" 197 "ClauseIndexModel" "putTimes" "I" : Cond) ∈ mgw := mgw_in (mtin_5 (List.mem_of_getElem? (i := 130) (by decide +kernel))) (by decide +kernel)
set_option maxRecDepth 20000 in
theorem wd_679 : (Cond.methodLink "ClauseIndexModel" 200 ⟨"ClauseIndexModel", "puts", "(I)V"⟩ : Cond) ∈ mgw := mgw_in (mtin_6 (List.mem_of_getElem? (i := 111) (by decide +kernel))) (by decide +kernel)
set_option maxRecDepth 20000 in
theorem wd_680 : (Cond.instanceMethod ⟨"ClauseIndexModel", "puts", "(I)V"⟩ : Cond) ∈ mgw := mgw_in (mtin_6 (List.mem_of_getElem? (i := 113) (by decide +kernel))) (by decide +kernel)
theorem wd_681 : (Cond.selects "ClauseIndexModel" ⟨"ClauseIndexModel", "puts", "(I)V"⟩ ⟨"ClauseIndexModel", "puts", "(I)V"⟩ : Cond) ∈ mgw := mgw_in (List.mem_append_left _ (List.mem_of_getElem? (i := 52) (by decide +kernel))) (by decide +kernel)
set_option maxRecDepth 20000 in
theorem wd_682 : (Cond.methodLink "ClauseIndexModel" 203 ⟨"ClauseIndexModel", "isShallow", "()Z"⟩ : Cond) ∈ mgw := mgw_in (mtin_6 (List.mem_of_getElem? (i := 115) (by decide +kernel))) (by decide +kernel)
set_option maxRecDepth 20000 in
theorem wd_683 : (Cond.instanceMethod ⟨"ClauseIndexModel", "isShallow", "()Z"⟩ : Cond) ∈ mgw := mgw_in (mtin_6 (List.mem_of_getElem? (i := 117) (by decide +kernel))) (by decide +kernel)
theorem wd_684 : (Cond.selects "ClauseIndexModel" ⟨"ClauseIndexModel", "isShallow", "()Z"⟩ ⟨"ClauseIndexModel", "isShallow", "()Z"⟩ : Cond) ∈ mgw := mgw_in (List.mem_append_left _ (List.mem_of_getElem? (i := 53) (by decide +kernel))) (by decide +kernel)
set_option maxRecDepth 20000 in
theorem wd_685 : (Cond.methodLink "ClauseIndexModel" 207 ⟨"ClauseIndexModel", "copies", "(II)V"⟩ : Cond) ∈ mgw := mgw_in (mtin_6 (List.mem_of_getElem? (i := 136) (by decide +kernel))) (by decide +kernel)
set_option maxRecDepth 20000 in
theorem wd_686 : (Cond.instanceMethod ⟨"ClauseIndexModel", "copies", "(II)V"⟩ : Cond) ∈ mgw := mgw_in (mtin_6 (List.mem_of_getElem? (i := 138) (by decide +kernel))) (by decide +kernel)
theorem wd_687 : (Cond.selects "ClauseIndexModel" ⟨"ClauseIndexModel", "copies", "(II)V"⟩ ⟨"ClauseIndexModel", "copies", "(II)V"⟩ : Cond) ∈ mgw := mgw_in (List.mem_append_left _ (List.mem_of_getElem? (i := 56) (by decide +kernel))) (by decide +kernel)
set_option maxRecDepth 20000 in
theorem wd_688 : (Cond.methodLink "ClauseIndexModel" 211 ⟨"ClauseIndexModel", "isKept", "(I)Z"⟩ : Cond) ∈ mgw := mgw_in (mtin_6 (List.mem_of_getElem? (i := 148) (by decide +kernel))) (by decide +kernel)
set_option maxRecDepth 20000 in
theorem wd_689 : (Cond.instanceMethod ⟨"ClauseIndexModel", "isKept", "(I)Z"⟩ : Cond) ∈ mgw := mgw_in (mtin_6 (List.mem_of_getElem? (i := 150) (by decide +kernel))) (by decide +kernel)
theorem wd_690 : (Cond.selects "ClauseIndexModel" ⟨"ClauseIndexModel", "isKept", "(I)Z"⟩ ⟨"ClauseIndexModel", "isKept", "(I)Z"⟩ : Cond) ∈ mgw := mgw_in (List.mem_append_left _ (List.mem_of_getElem? (i := 57) (by decide +kernel))) (by decide +kernel)
set_option maxRecDepth 20000 in
theorem wd_691 : (Cond.methodLink "ClauseIndexModel" 214 ⟨"ClauseIndexModel", "goes", "(I)V"⟩ : Cond) ∈ mgw := mgw_in (mtin_6 (List.mem_of_getElem? (i := 152) (by decide +kernel))) (by decide +kernel)
set_option maxRecDepth 20000 in
theorem wd_692 : (Cond.instanceMethod ⟨"ClauseIndexModel", "goes", "(I)V"⟩ : Cond) ∈ mgw := mgw_in (mtin_6 (List.mem_of_getElem? (i := 154) (by decide +kernel))) (by decide +kernel)
theorem wd_693 : (Cond.selects "ClauseIndexModel" ⟨"ClauseIndexModel", "goes", "(I)V"⟩ ⟨"ClauseIndexModel", "goes", "(I)V"⟩ : Cond) ∈ mgw := mgw_in (List.mem_append_left _ (List.mem_of_getElem? (i := 58) (by decide +kernel))) (by decide +kernel)
set_option maxRecDepth 20000 in
theorem wd_694 : (Cond.methodLink "ClauseIndexModel" 217 ⟨"ClauseIndexModel", "keptMany", "()I"⟩ : Cond) ∈ mgw := mgw_in (mtin_6 (List.mem_of_getElem? (i := 156) (by decide +kernel))) (by decide +kernel)
set_option maxRecDepth 20000 in
theorem wd_695 : (Cond.instanceMethod ⟨"ClauseIndexModel", "keptMany", "()I"⟩ : Cond) ∈ mgw := mgw_in (mtin_6 (List.mem_of_getElem? (i := 158) (by decide +kernel))) (by decide +kernel)
theorem wd_696 : (Cond.selects "ClauseIndexModel" ⟨"ClauseIndexModel", "keptMany", "()I"⟩ ⟨"ClauseIndexModel", "keptMany", "()I"⟩ : Cond) ∈ mgw := mgw_in (List.mem_append_left _ (List.mem_of_getElem? (i := 59) (by decide +kernel))) (by decide +kernel)
set_option maxRecDepth 20000 in
theorem wd_697 : (Cond.fieldLink "ClauseIndexModel" 220 "ClauseIndexModel" "deedMany" "I" : Cond) ∈ mgw := mgw_in (mtin_5 (List.mem_of_getElem? (i := 115) (by decide +kernel))) (by decide +kernel)
set_option maxRecDepth 20000 in
theorem wd_698 : (Cond.constantLong "ClauseIndexModel" 223 (10 : Int64) : Cond) ∈ mgw := mgw_in (mtin_6 (List.mem_of_getElem? (i := 164) (by decide +kernel))) (by decide +kernel)
set_option maxRecDepth 20000 in
theorem wd_699 : (Cond.constantLong "ClauseIndexModel" 225 (2 : Int64) : Cond) ∈ mgw := mgw_in (mtin_6 (List.mem_of_getElem? (i := 181) (by decide +kernel))) (by decide +kernel)
set_option maxRecDepth 20000 in
theorem wd_700 : (Cond.methodLink "ClauseIndexModel" 227 ⟨"ClauseIndexModel", "beginOf", "(II)I"⟩ : Cond) ∈ mgw := mgw_in (mtin_6 (List.mem_of_getElem? (i := 182) (by decide +kernel))) (by decide +kernel)
set_option maxRecDepth 20000 in
theorem wd_701 : (Cond.instanceMethod ⟨"ClauseIndexModel", "beginOf", "(II)I"⟩ : Cond) ∈ mgw := mgw_in (mtin_6 (List.mem_of_getElem? (i := 184) (by decide +kernel))) (by decide +kernel)
theorem wd_702 : (Cond.selects "ClauseIndexModel" ⟨"ClauseIndexModel", "beginOf", "(II)I"⟩ ⟨"ClauseIndexModel", "beginOf", "(II)I"⟩ : Cond) ∈ mgw := mgw_in (List.mem_append_left _ (List.mem_of_getElem? (i := 60) (by decide +kernel))) (by decide +kernel)
set_option maxRecDepth 20000 in
theorem wd_703 : (Cond.methodLink "ClauseIndexModel" 230 ⟨"ClauseIndexModel", "pastOf", "(II)I"⟩ : Cond) ∈ mgw := mgw_in (mtin_6 (List.mem_of_getElem? (i := 186) (by decide +kernel))) (by decide +kernel)
set_option maxRecDepth 20000 in
theorem wd_704 : (Cond.instanceMethod ⟨"ClauseIndexModel", "pastOf", "(II)I"⟩ : Cond) ∈ mgw := mgw_in (mtin_6 (List.mem_of_getElem? (i := 188) (by decide +kernel))) (by decide +kernel)
theorem wd_705 : (Cond.selects "ClauseIndexModel" ⟨"ClauseIndexModel", "pastOf", "(II)I"⟩ ⟨"ClauseIndexModel", "pastOf", "(II)I"⟩ : Cond) ∈ mgw := mgw_in (List.mem_append_left _ (List.mem_of_getElem? (i := 61) (by decide +kernel))) (by decide +kernel)
set_option maxRecDepth 20000 in
theorem wd_706 : (Cond.constantLong "ClauseIndexModel" 233 (20 : Int64) : Cond) ∈ mgw := mgw_in (mtin_6 (List.mem_of_getElem? (i := 205) (by decide +kernel))) (by decide +kernel)
set_option maxRecDepth 20000 in
theorem wd_707 : (Cond.constantLong "ClauseIndexModel" 235 (25 : Int64) : Cond) ∈ mgw := mgw_in (mtin_6 (List.mem_of_getElem? (i := 206) (by decide +kernel))) (by decide +kernel)
set_option maxRecDepth 20000 in
theorem wd_708 : (Cond.static ⟨"ClauseIndexModel", "isVariable", "(I)Z"⟩ : Cond) ∈ mgw := mgw_in (mtin_6 (List.mem_of_getElem? (i := 203) (by decide +kernel))) (by decide +kernel)
set_option maxRecDepth 20000 in
theorem wd_709 : (Cond.methodLink "ClauseIndexModel" 237 ⟨"ClauseIndexModel", "isVariable", "(I)Z"⟩ : Cond) ∈ mgw := mgw_in (mtin_6 (List.mem_of_getElem? (i := 202) (by decide +kernel))) (by decide +kernel)
set_option maxRecDepth 20000 in
theorem wd_710 : (Cond.methodLink "ClauseIndexModel" 240 ⟨"ClauseIndexModel", "variablesOf", "(I)I"⟩ : Cond) ∈ mgw := mgw_in (mtin_6 (List.mem_of_getElem? (i := 198) (by decide +kernel))) (by decide +kernel)
set_option maxRecDepth 20000 in
theorem wd_711 : (Cond.instanceMethod ⟨"ClauseIndexModel", "variablesOf", "(I)I"⟩ : Cond) ∈ mgw := mgw_in (mtin_6 (List.mem_of_getElem? (i := 200) (by decide +kernel))) (by decide +kernel)
theorem wd_712 : (Cond.selects "ClauseIndexModel" ⟨"ClauseIndexModel", "variablesOf", "(I)I"⟩ ⟨"ClauseIndexModel", "variablesOf", "(I)I"⟩ : Cond) ∈ mgw := mgw_in (List.mem_append_left _ (List.mem_of_getElem? (i := 62) (by decide +kernel))) (by decide +kernel)
set_option maxRecDepth 20000 in
theorem wd_713 : (Cond.methodLink "ClauseIndexModel" 243 ⟨"ClauseIndexModel", "areSame", "(IIIII)Z"⟩ : Cond) ∈ mgw := mgw_in (mtin_6 (List.mem_of_getElem? (i := 211) (by decide +kernel))) (by decide +kernel)
set_option maxRecDepth 20000 in
theorem wd_714 : (Cond.instanceMethod ⟨"ClauseIndexModel", "areSame", "(IIIII)Z"⟩ : Cond) ∈ mgw := mgw_in (mtin_6 (List.mem_of_getElem? (i := 213) (by decide +kernel))) (by decide +kernel)
theorem wd_715 : (Cond.selects "ClauseIndexModel" ⟨"ClauseIndexModel", "areSame", "(IIIII)Z"⟩ ⟨"ClauseIndexModel", "areSame", "(IIIII)Z"⟩ : Cond) ∈ mgw := mgw_in (List.mem_append_left _ (List.mem_of_getElem? (i := 63) (by decide +kernel))) (by decide +kernel)
set_option maxRecDepth 20000 in
theorem wd_716 : (Cond.fieldLink "ClauseIndexModel" 247 "ClauseIndexModel" "ofA" "I" : Cond) ∈ mgw := mgw_in (mtin_5 (List.mem_of_getElem? (i := 140) (by decide +kernel))) (by decide +kernel)
set_option maxRecDepth 20000 in
theorem wd_717 : (Cond.fieldLink "ClauseIndexModel" 250 "ClauseIndexModel" "ofB" "I" : Cond) ∈ mgw := mgw_in (mtin_5 (List.mem_of_getElem? (i := 141) (by decide +kernel))) (by decide +kernel)
set_option maxRecDepth 20000 in
theorem wd_718 : (Cond.methodLink "ClauseIndexModel" 253 ⟨"ClauseIndexModel", "isRenaming", "(I)Z"⟩ : Cond) ∈ mgw := mgw_in (mtin_7 (List.mem_of_getElem? (i := 2) (by decide +kernel))) (by decide +kernel)
set_option maxRecDepth 20000 in
theorem wd_719 : (Cond.instanceMethod ⟨"ClauseIndexModel", "isRenaming", "(I)Z"⟩ : Cond) ∈ mgw := mgw_in (mtin_7 (List.mem_of_getElem? (i := 4) (by decide +kernel))) (by decide +kernel)
theorem wd_720 : (Cond.selects "ClauseIndexModel" ⟨"ClauseIndexModel", "isRenaming", "(I)Z"⟩ ⟨"ClauseIndexModel", "isRenaming", "(I)Z"⟩ : Cond) ∈ mgw := mgw_in (List.mem_append_left _ (List.mem_of_getElem? (i := 69) (by decide +kernel))) (by decide +kernel)
set_option maxRecDepth 20000 in
theorem wd_721 : (Cond.fieldLink "ClauseIndexModel" 256 "ClauseIndexModel" "renamedMany" "I" : Cond) ∈ mgw := mgw_in (mtin_5 (List.mem_of_getElem? (i := 137) (by decide +kernel))) (by decide +kernel)
set_option maxRecDepth 20000 in
theorem wd_722 : (Cond.fieldLink "ClauseIndexModel" 259 "ClauseIndexModel" "wayMany" "I" : Cond) ∈ mgw := mgw_in (mtin_5 (List.mem_of_getElem? (i := 135) (by decide +kernel))) (by decide +kernel)
set_option maxRecDepth 20000 in
theorem wd_723 : (Cond.methodLink "ClauseIndexModel" 262 ⟨"ClauseIndexModel", "counts", "(I)V"⟩ : Cond) ∈ mgw := mgw_in (mtin_6 (List.mem_of_getElem? (i := 238) (by decide +kernel))) (by decide +kernel)
set_option maxRecDepth 20000 in
theorem wd_724 : (Cond.instanceMethod ⟨"ClauseIndexModel", "counts", "(I)V"⟩ : Cond) ∈ mgw := mgw_in (mtin_7 (List.mem_of_getElem? (i := 0) (by decide +kernel))) (by decide +kernel)
theorem wd_725 : (Cond.selects "ClauseIndexModel" ⟨"ClauseIndexModel", "counts", "(I)V"⟩ ⟨"ClauseIndexModel", "counts", "(I)V"⟩ : Cond) ∈ mgw := mgw_in (List.mem_append_left _ (List.mem_of_getElem? (i := 68) (by decide +kernel))) (by decide +kernel)
set_option maxRecDepth 20000 in
theorem wd_726 : (Cond.fieldLink "ClauseIndexModel" 265 "ClauseIndexModel" "mostWays" "I" : Cond) ∈ mgw := mgw_in (mtin_5 (List.mem_of_getElem? (i := 136) (by decide +kernel))) (by decide +kernel)
set_option maxRecDepth 20000 in
theorem wd_727 : (Cond.fieldLink "ClauseIndexModel" 268 "ClauseIndexModel" "allowed" "I" : Cond) ∈ mgw := mgw_in (mtin_5 (List.mem_of_getElem? (i := 139) (by decide +kernel))) (by decide +kernel)
set_option maxRecDepth 20000 in
theorem wd_728 : (Cond.fieldLink "ClauseIndexModel" 271 "ClauseIndexModel" "ofMode" "I" : Cond) ∈ mgw := mgw_in (mtin_5 (List.mem_of_getElem? (i := 142) (by decide +kernel))) (by decide +kernel)
set_option maxRecDepth 20000 in
theorem wd_729 : (Cond.fieldLink "ClauseIndexModel" 274 "ClauseIndexModel" "usedOnes" "I" : Cond) ∈ mgw := mgw_in (mtin_5 (List.mem_of_getElem? (i := 138) (by decide +kernel))) (by decide +kernel)
set_option maxRecDepth 20000 in
theorem wd_730 : (Cond.methodLink "ClauseIndexModel" 277 ⟨"ClauseIndexModel", "matches", "(III)Z"⟩ : Cond) ∈ mgw := mgw_in (mtin_7 (List.mem_of_getElem? (i := 6) (by decide +kernel))) (by decide +kernel)
set_option maxRecDepth 20000 in
theorem wd_731 : (Cond.instanceMethod ⟨"ClauseIndexModel", "matches", "(III)Z"⟩ : Cond) ∈ mgw := mgw_in (mtin_7 (List.mem_of_getElem? (i := 8) (by decide +kernel))) (by decide +kernel)
theorem wd_732 : (Cond.selects "ClauseIndexModel" ⟨"ClauseIndexModel", "matches", "(III)Z"⟩ ⟨"ClauseIndexModel", "matches", "(III)Z"⟩ : Cond) ∈ mgw := mgw_in (List.mem_append_left _ (List.mem_of_getElem? (i := 70) (by decide +kernel))) (by decide +kernel)
set_option maxRecDepth 20000 in
theorem wd_733 : (Cond.methodLink "ClauseIndexModel" 281 ⟨"ClauseIndexModel", "goesWays", "(I)V"⟩ : Cond) ∈ mgw := mgw_in (mtin_6 (List.mem_of_getElem? (i := 234) (by decide +kernel))) (by decide +kernel)
set_option maxRecDepth 20000 in
theorem wd_734 : (Cond.instanceMethod ⟨"ClauseIndexModel", "goesWays", "(I)V"⟩ : Cond) ∈ mgw := mgw_in (mtin_6 (List.mem_of_getElem? (i := 236) (by decide +kernel))) (by decide +kernel)
theorem wd_735 : (Cond.selects "ClauseIndexModel" ⟨"ClauseIndexModel", "goesWays", "(I)V"⟩ ⟨"ClauseIndexModel", "goesWays", "(I)V"⟩ : Cond) ∈ mgw := mgw_in (List.mem_append_left _ (List.mem_of_getElem? (i := 67) (by decide +kernel))) (by decide +kernel)
set_option maxRecDepth 20000 in
theorem wd_736 : (Cond.methodLink "ClauseIndexModel" 284 ⟨"ClauseIndexModel", "waysTo", "(IIIII)I"⟩ : Cond) ∈ mgw := mgw_in (mtin_6 (List.mem_of_getElem? (i := 230) (by decide +kernel))) (by decide +kernel)
set_option maxRecDepth 20000 in
theorem wd_737 : (Cond.instanceMethod ⟨"ClauseIndexModel", "waysTo", "(IIIII)I"⟩ : Cond) ∈ mgw := mgw_in (mtin_6 (List.mem_of_getElem? (i := 232) (by decide +kernel))) (by decide +kernel)
theorem wd_738 : (Cond.selects "ClauseIndexModel" ⟨"ClauseIndexModel", "waysTo", "(IIIII)I"⟩ ⟨"ClauseIndexModel", "waysTo", "(IIIII)I"⟩ : Cond) ∈ mgw := mgw_in (List.mem_append_left _ (List.mem_of_getElem? (i := 66) (by decide +kernel))) (by decide +kernel)
set_option maxRecDepth 20000 in
theorem wd_739 : (Cond.constant "ClauseIndexModel" 288 (268435456 : Int32) : Cond) ∈ mgw := mgw_in (mtin_7 (List.mem_of_getElem? (i := 14) (by decide +kernel))) (by decide +kernel)
set_option maxRecDepth 20000 in
theorem wd_740 : (Cond.static ⟨"ClauseIndexModel", "isMode", "(I)Z"⟩ : Cond) ∈ mgw := mgw_in (mtin_6 (List.mem_of_getElem? (i := 224) (by decide +kernel))) (by decide +kernel)
set_option maxRecDepth 20000 in
theorem wd_741 : (Cond.methodLink "ClauseIndexModel" 289 ⟨"ClauseIndexModel", "isMode", "(I)Z"⟩ : Cond) ∈ mgw := mgw_in (mtin_6 (List.mem_of_getElem? (i := 223) (by decide +kernel))) (by decide +kernel)
set_option maxRecDepth 20000 in
theorem wd_742 : (Cond.methodLink "ClauseIndexModel" 292 ⟨"ClauseIndexModel", "areTold", "(III)Z"⟩ : Cond) ∈ mgw := mgw_in (mtin_6 (List.mem_of_getElem? (i := 219) (by decide +kernel))) (by decide +kernel)
set_option maxRecDepth 20000 in
theorem wd_743 : (Cond.instanceMethod ⟨"ClauseIndexModel", "areTold", "(III)Z"⟩ : Cond) ∈ mgw := mgw_in (mtin_6 (List.mem_of_getElem? (i := 221) (by decide +kernel))) (by decide +kernel)
theorem wd_744 : (Cond.selects "ClauseIndexModel" ⟨"ClauseIndexModel", "areTold", "(III)Z"⟩ ⟨"ClauseIndexModel", "areTold", "(III)Z"⟩ : Cond) ∈ mgw := mgw_in (List.mem_append_left _ (List.mem_of_getElem? (i := 64) (by decide +kernel))) (by decide +kernel)
set_option maxRecDepth 20000 in
theorem wd_745 : (Cond.methodLink "ClauseIndexModel" 295 ⟨"ClauseIndexModel", "doesCover", "(III)Z"⟩ : Cond) ∈ mgw := mgw_in (mtin_6 (List.mem_of_getElem? (i := 226) (by decide +kernel))) (by decide +kernel)
set_option maxRecDepth 20000 in
theorem wd_746 : (Cond.instanceMethod ⟨"ClauseIndexModel", "doesCover", "(III)Z"⟩ : Cond) ∈ mgw := mgw_in (mtin_6 (List.mem_of_getElem? (i := 228) (by decide +kernel))) (by decide +kernel)
theorem wd_747 : (Cond.selects "ClauseIndexModel" ⟨"ClauseIndexModel", "doesCover", "(III)Z"⟩ ⟨"ClauseIndexModel", "doesCover", "(III)Z"⟩ : Cond) ∈ mgw := mgw_in (List.mem_append_left _ (List.mem_of_getElem? (i := 65) (by decide +kernel))) (by decide +kernel)
set_option maxRecDepth 20000 in
theorem wd_748 : (Cond.constantLong "ClauseIndexModel" 298 (5 : Int64) : Cond) ∈ mgw := mgw_in (mtin_7 (List.mem_of_getElem? (i := 23) (by decide +kernel))) (by decide +kernel)
set_option maxRecDepth 20000 in
theorem wd_749 : (Cond.methodLink "ClauseIndexModel" 300 ⟨"ClauseIndexModel", "areAlike", "(II)Z"⟩ : Cond) ∈ mgw := mgw_in (mtin_7 (List.mem_of_getElem? (i := 28) (by decide +kernel))) (by decide +kernel)
set_option maxRecDepth 20000 in
theorem wd_750 : (Cond.instanceMethod ⟨"ClauseIndexModel", "areAlike", "(II)Z"⟩ : Cond) ∈ mgw := mgw_in (mtin_7 (List.mem_of_getElem? (i := 30) (by decide +kernel))) (by decide +kernel)
theorem wd_751 : (Cond.selects "ClauseIndexModel" ⟨"ClauseIndexModel", "areAlike", "(II)Z"⟩ ⟨"ClauseIndexModel", "areAlike", "(II)Z"⟩ : Cond) ∈ mgw := mgw_in (List.mem_append_left _ (List.mem_of_getElem? (i := 71) (by decide +kernel))) (by decide +kernel)
set_option maxRecDepth 20000 in
theorem wd_752 : (Cond.methodLink "ClauseIndexModel" 304 ⟨"ClauseIndexModel", "putBegin", "(I)I"⟩ : Cond) ∈ mgw := mgw_in (mtin_7 (List.mem_of_getElem? (i := 44) (by decide +kernel))) (by decide +kernel)
set_option maxRecDepth 20000 in
theorem wd_753 : (Cond.instanceMethod ⟨"ClauseIndexModel", "putBegin", "(I)I"⟩ : Cond) ∈ mgw := mgw_in (mtin_7 (List.mem_of_getElem? (i := 46) (by decide +kernel))) (by decide +kernel)
theorem wd_754 : (Cond.selects "ClauseIndexModel" ⟨"ClauseIndexModel", "putBegin", "(I)I"⟩ ⟨"ClauseIndexModel", "putBegin", "(I)I"⟩ : Cond) ∈ mgw := mgw_in (List.mem_append_left _ (List.mem_of_getElem? (i := 73) (by decide +kernel))) (by decide +kernel)
set_option maxRecDepth 20000 in
theorem wd_755 : (Cond.methodLink "ClauseIndexModel" 307 ⟨"ClauseIndexModel", "putsTerm", "(II)I"⟩ : Cond) ∈ mgw := mgw_in (mtin_7 (List.mem_of_getElem? (i := 48) (by decide +kernel))) (by decide +kernel)
set_option maxRecDepth 20000 in
theorem wd_756 : (Cond.instanceMethod ⟨"ClauseIndexModel", "putsTerm", "(II)I"⟩ : Cond) ∈ mgw := mgw_in (mtin_7 (List.mem_of_getElem? (i := 50) (by decide +kernel))) (by decide +kernel)
theorem wd_757 : (Cond.selects "ClauseIndexModel" ⟨"ClauseIndexModel", "putsTerm", "(II)I"⟩ ⟨"ClauseIndexModel", "putsTerm", "(II)I"⟩ : Cond) ∈ mgw := mgw_in (List.mem_append_left _ (List.mem_of_getElem? (i := 74) (by decide +kernel))) (by decide +kernel)
set_option maxRecDepth 20000 in
theorem wd_758 : (Cond.methodLink "ClauseIndexModel" 310 ⟨"ClauseIndexModel", "unites", "(II)I"⟩ : Cond) ∈ mgw := mgw_in (mtin_7 (List.mem_of_getElem? (i := 40) (by decide +kernel))) (by decide +kernel)
set_option maxRecDepth 20000 in
theorem wd_759 : (Cond.instanceMethod ⟨"ClauseIndexModel", "unites", "(II)I"⟩ : Cond) ∈ mgw := mgw_in (mtin_7 (List.mem_of_getElem? (i := 42) (by decide +kernel))) (by decide +kernel)
theorem wd_760 : (Cond.selects "ClauseIndexModel" ⟨"ClauseIndexModel", "unites", "(II)I"⟩ ⟨"ClauseIndexModel", "unites", "(II)I"⟩ : Cond) ∈ mgw := mgw_in (List.mem_append_left _ (List.mem_of_getElem? (i := 72) (by decide +kernel))) (by decide +kernel)
set_option maxRecDepth 20000 in
theorem wd_761 : (Cond.static ⟨"ClauseIndexModel", "bitsOf", "(I)I"⟩ : Cond) ∈ mgw := mgw_in (mtin_7 (List.mem_of_getElem? (i := 57) (by decide +kernel))) (by decide +kernel)
set_option maxRecDepth 20000 in
theorem wd_762 : (Cond.methodLink "ClauseIndexModel" 313 ⟨"ClauseIndexModel", "bitsOf", "(I)I"⟩ : Cond) ∈ mgw := mgw_in (mtin_7 (List.mem_of_getElem? (i := 56) (by decide +kernel))) (by decide +kernel)
set_option maxRecDepth 20000 in
theorem wd_763 : (Cond.methodLink "ClauseIndexModel" 316 ⟨"ClauseIndexModel", "depthOf", "(II)I"⟩ : Cond) ∈ mgw := mgw_in (mtin_7 (List.mem_of_getElem? (i := 71) (by decide +kernel))) (by decide +kernel)
set_option maxRecDepth 20000 in
theorem wd_764 : (Cond.instanceMethod ⟨"ClauseIndexModel", "depthOf", "(II)I"⟩ : Cond) ∈ mgw := mgw_in (mtin_7 (List.mem_of_getElem? (i := 73) (by decide +kernel))) (by decide +kernel)
theorem wd_765 : (Cond.selects "ClauseIndexModel" ⟨"ClauseIndexModel", "depthOf", "(II)I"⟩ ⟨"ClauseIndexModel", "depthOf", "(II)I"⟩ : Cond) ∈ mgw := mgw_in (List.mem_append_left _ (List.mem_of_getElem? (i := 76) (by decide +kernel))) (by decide +kernel)
set_option maxRecDepth 20000 in
theorem wd_766 : (Cond.constantLong "ClauseIndexModel" 319 (39 : Int64) : Cond) ∈ mgw := mgw_in (mtin_7 (List.mem_of_getElem? (i := 66) (by decide +kernel))) (by decide +kernel)
set_option maxRecDepth 20000 in
theorem wd_767 : (Cond.methodLink "ClauseIndexModel" 321 ⟨"ClauseIndexModel", "valueOf", "(III)I"⟩ : Cond) ∈ mgw := mgw_in (mtin_7 (List.mem_of_getElem? (i := 67) (by decide +kernel))) (by decide +kernel)
set_option maxRecDepth 20000 in
theorem wd_768 : (Cond.instanceMethod ⟨"ClauseIndexModel", "valueOf", "(III)I"⟩ : Cond) ∈ mgw := mgw_in (mtin_7 (List.mem_of_getElem? (i := 69) (by decide +kernel))) (by decide +kernel)
theorem wd_769 : (Cond.selects "ClauseIndexModel" ⟨"ClauseIndexModel", "valueOf", "(III)I"⟩ ⟨"ClauseIndexModel", "valueOf", "(III)I"⟩ : Cond) ∈ mgw := mgw_in (List.mem_append_left _ (List.mem_of_getElem? (i := 75) (by decide +kernel))) (by decide +kernel)
set_option maxRecDepth 20000 in
theorem wd_770 : (Cond.static ⟨"ClauseIndexModel", "isFeature", "(I)Z"⟩ : Cond) ∈ mgw := mgw_in (mtin_7 (List.mem_of_getElem? (i := 64) (by decide +kernel))) (by decide +kernel)
set_option maxRecDepth 20000 in
theorem wd_771 : (Cond.methodLink "ClauseIndexModel" 325 ⟨"ClauseIndexModel", "isFeature", "(I)Z"⟩ : Cond) ∈ mgw := mgw_in (mtin_7 (List.mem_of_getElem? (i := 63) (by decide +kernel))) (by decide +kernel)
set_option maxRecDepth 20000 in
theorem wd_772 : (Cond.methodLink "ClauseIndexModel" 328 ⟨"ClauseIndexModel", "laysValues", "(I)V"⟩ : Cond) ∈ mgw := mgw_in (mtin_7 (List.mem_of_getElem? (i := 79) (by decide +kernel))) (by decide +kernel)
set_option maxRecDepth 20000 in
theorem wd_773 : (Cond.instanceMethod ⟨"ClauseIndexModel", "laysValues", "(I)V"⟩ : Cond) ∈ mgw := mgw_in (mtin_7 (List.mem_of_getElem? (i := 81) (by decide +kernel))) (by decide +kernel)
theorem wd_774 : (Cond.selects "ClauseIndexModel" ⟨"ClauseIndexModel", "laysValues", "(I)V"⟩ ⟨"ClauseIndexModel", "laysValues", "(I)V"⟩ : Cond) ∈ mgw := mgw_in (List.mem_append_left _ (List.mem_of_getElem? (i := 77) (by decide +kernel))) (by decide +kernel)
set_option maxRecDepth 20000 in
theorem wd_775 : (Cond.methodLink "ClauseIndexModel" 331 ⟨"ClauseIndexModel", "powerNow", "(I)I"⟩ : Cond) ∈ mgw := mgw_in (mtin_7 (List.mem_of_getElem? (i := 83) (by decide +kernel))) (by decide +kernel)
set_option maxRecDepth 20000 in
theorem wd_776 : (Cond.instanceMethod ⟨"ClauseIndexModel", "powerNow", "(I)I"⟩ : Cond) ∈ mgw := mgw_in (mtin_7 (List.mem_of_getElem? (i := 85) (by decide +kernel))) (by decide +kernel)
theorem wd_777 : (Cond.selects "ClauseIndexModel" ⟨"ClauseIndexModel", "powerNow", "(I)I"⟩ ⟨"ClauseIndexModel", "powerNow", "(I)I"⟩ : Cond) ∈ mgw := mgw_in (List.mem_append_left _ (List.mem_of_getElem? (i := 78) (by decide +kernel))) (by decide +kernel)
set_option maxRecDepth 20000 in
theorem wd_778 : (Cond.constantLong "ClauseIndexModel" 334 (8 : Int64) : Cond) ∈ mgw := mgw_in (mtin_7 (List.mem_of_getElem? (i := 91) (by decide +kernel))) (by decide +kernel)
set_option maxRecDepth 20000 in
theorem wd_779 : (Cond.methodLink "ClauseIndexModel" 336 ⟨"ClauseIndexModel", "laysTree", "()V"⟩ : Cond) ∈ mgw := mgw_in (mtin_7 (List.mem_of_getElem? (i := 92) (by decide +kernel))) (by decide +kernel)
set_option maxRecDepth 20000 in
theorem wd_780 : (Cond.instanceMethod ⟨"ClauseIndexModel", "laysTree", "()V"⟩ : Cond) ∈ mgw := mgw_in (mtin_7 (List.mem_of_getElem? (i := 94) (by decide +kernel))) (by decide +kernel)
theorem wd_781 : (Cond.selects "ClauseIndexModel" ⟨"ClauseIndexModel", "laysTree", "()V"⟩ ⟨"ClauseIndexModel", "laysTree", "()V"⟩ : Cond) ∈ mgw := mgw_in (List.mem_append_left _ (List.mem_of_getElem? (i := 79) (by decide +kernel))) (by decide +kernel)
set_option maxRecDepth 20000 in
theorem wd_782 : (Cond.fieldLink "ClauseIndexModel" 339 "ClauseIndexModel" "nodeMany" "I" : Cond) ∈ mgw := mgw_in (mtin_5 (List.mem_of_getElem? (i := 157) (by decide +kernel))) (by decide +kernel)
set_option maxRecDepth 20000 in
theorem wd_783 : (Cond.methodLink "ClauseIndexModel" 342 ⟨"ClauseIndexModel", "isChosen", "(II)Z"⟩ : Cond) ∈ mgw := mgw_in (mtin_7 (List.mem_of_getElem? (i := 112) (by decide +kernel))) (by decide +kernel)
set_option maxRecDepth 20000 in
theorem wd_784 : (Cond.instanceMethod ⟨"ClauseIndexModel", "isChosen", "(II)Z"⟩ : Cond) ∈ mgw := mgw_in (mtin_7 (List.mem_of_getElem? (i := 114) (by decide +kernel))) (by decide +kernel)
theorem wd_785 : (Cond.selects "ClauseIndexModel" ⟨"ClauseIndexModel", "isChosen", "(II)Z"⟩ ⟨"ClauseIndexModel", "isChosen", "(II)Z"⟩ : Cond) ∈ mgw := mgw_in (List.mem_append_left _ (List.mem_of_getElem? (i := 83) (by decide +kernel))) (by decide +kernel)
set_option maxRecDepth 20000 in
theorem wd_786 : (Cond.methodLink "ClauseIndexModel" 345 ⟨"ClauseIndexModel", "pairsWith", "(II)I"⟩ : Cond) ∈ mgw := mgw_in (mtin_7 (List.mem_of_getElem? (i := 116) (by decide +kernel))) (by decide +kernel)
set_option maxRecDepth 20000 in
theorem wd_787 : (Cond.instanceMethod ⟨"ClauseIndexModel", "pairsWith", "(II)I"⟩ : Cond) ∈ mgw := mgw_in (mtin_7 (List.mem_of_getElem? (i := 118) (by decide +kernel))) (by decide +kernel)
theorem wd_788 : (Cond.selects "ClauseIndexModel" ⟨"ClauseIndexModel", "pairsWith", "(II)I"⟩ ⟨"ClauseIndexModel", "pairsWith", "(II)I"⟩ : Cond) ∈ mgw := mgw_in (List.mem_append_left _ (List.mem_of_getElem? (i := 84) (by decide +kernel))) (by decide +kernel)
set_option maxRecDepth 20000 in
theorem wd_789 : (Cond.methodLink "ClauseIndexModel" 348 ⟨"ClauseIndexModel", "firstUnlike", "(II)I"⟩ : Cond) ∈ mgw := mgw_in (mtin_7 (List.mem_of_getElem? (i := 104) (by decide +kernel))) (by decide +kernel)
set_option maxRecDepth 20000 in
theorem wd_790 : (Cond.instanceMethod ⟨"ClauseIndexModel", "firstUnlike", "(II)I"⟩ : Cond) ∈ mgw := mgw_in (mtin_7 (List.mem_of_getElem? (i := 106) (by decide +kernel))) (by decide +kernel)
theorem wd_791 : (Cond.selects "ClauseIndexModel" ⟨"ClauseIndexModel", "firstUnlike", "(II)I"⟩ ⟨"ClauseIndexModel", "firstUnlike", "(II)I"⟩ : Cond) ∈ mgw := mgw_in (List.mem_append_left _ (List.mem_of_getElem? (i := 82) (by decide +kernel))) (by decide +kernel)
set_option maxRecDepth 20000 in
theorem wd_792 : (Cond.methodLink "ClauseIndexModel" 351 ⟨"ClauseIndexModel", "laysNode", "(III)V"⟩ : Cond) ∈ mgw := mgw_in (mtin_7 (List.mem_of_getElem? (i := 96) (by decide +kernel))) (by decide +kernel)
set_option maxRecDepth 20000 in
theorem wd_793 : (Cond.instanceMethod ⟨"ClauseIndexModel", "laysNode", "(III)V"⟩ : Cond) ∈ mgw := mgw_in (mtin_7 (List.mem_of_getElem? (i := 98) (by decide +kernel))) (by decide +kernel)
theorem wd_794 : (Cond.selects "ClauseIndexModel" ⟨"ClauseIndexModel", "laysNode", "(III)V"⟩ ⟨"ClauseIndexModel", "laysNode", "(III)V"⟩ : Cond) ∈ mgw := mgw_in (List.mem_append_left _ (List.mem_of_getElem? (i := 80) (by decide +kernel))) (by decide +kernel)
set_option maxRecDepth 20000 in
theorem wd_795 : (Cond.methodLink "ClauseIndexModel" 355 ⟨"ClauseIndexModel", "isAhead", "(II)Z"⟩ : Cond) ∈ mgw := mgw_in (mtin_7 (List.mem_of_getElem? (i := 100) (by decide +kernel))) (by decide +kernel)
set_option maxRecDepth 20000 in
theorem wd_796 : (Cond.instanceMethod ⟨"ClauseIndexModel", "isAhead", "(II)Z"⟩ : Cond) ∈ mgw := mgw_in (mtin_7 (List.mem_of_getElem? (i := 102) (by decide +kernel))) (by decide +kernel)
theorem wd_797 : (Cond.selects "ClauseIndexModel" ⟨"ClauseIndexModel", "isAhead", "(II)Z"⟩ ⟨"ClauseIndexModel", "isAhead", "(II)Z"⟩ : Cond) ∈ mgw := mgw_in (List.mem_append_left _ (List.mem_of_getElem? (i := 81) (by decide +kernel))) (by decide +kernel)
set_option maxRecDepth 20000 in
theorem wd_798 : (Cond.constantLong "ClauseIndexModel" 358 (3 : Int64) : Cond) ∈ mgw := mgw_in (mtin_7 (List.mem_of_getElem? (i := 140) (by decide +kernel))) (by decide +kernel)
set_option maxRecDepth 20000 in
theorem wd_799 : (Cond.static ⟨"ClauseIndexModel", "byMode", "(III)I"⟩ : Cond) ∈ mgw := mgw_in (mtin_7 (List.mem_of_getElem? (i := 154) (by decide +kernel))) (by decide +kernel)
set_option maxRecDepth 20000 in
theorem wd_800 : (Cond.methodLink "ClauseIndexModel" 360 ⟨"ClauseIndexModel", "byMode", "(III)I"⟩ : Cond) ∈ mgw := mgw_in (mtin_7 (List.mem_of_getElem? (i := 153) (by decide +kernel))) (by decide +kernel)
set_option maxRecDepth 20000 in
theorem wd_801 : (Cond.methodLink "ClauseIndexModel" 363 ⟨"ClauseIndexModel", "laysVisited", "(III)I"⟩ : Cond) ∈ mgw := mgw_in (mtin_7 (List.mem_of_getElem? (i := 149) (by decide +kernel))) (by decide +kernel)
set_option maxRecDepth 20000 in
theorem wd_802 : (Cond.instanceMethod ⟨"ClauseIndexModel", "laysVisited", "(III)I"⟩ : Cond) ∈ mgw := mgw_in (mtin_7 (List.mem_of_getElem? (i := 151) (by decide +kernel))) (by decide +kernel)
theorem wd_803 : (Cond.selects "ClauseIndexModel" ⟨"ClauseIndexModel", "laysVisited", "(III)I"⟩ ⟨"ClauseIndexModel", "laysVisited", "(III)I"⟩ : Cond) ∈ mgw := mgw_in (List.mem_append_left _ (List.mem_of_getElem? (i := 85) (by decide +kernel))) (by decide +kernel)
set_option maxRecDepth 20000 in
theorem wd_804 : (Cond.static ⟨"ClauseIndexModel", "told", "(II)I"⟩ : Cond) ∈ mgw := mgw_in (mtin_7 (List.mem_of_getElem? (i := 169) (by decide +kernel))) (by decide +kernel)
set_option maxRecDepth 20000 in
theorem wd_805 : (Cond.methodLink "ClauseIndexModel" 366 ⟨"ClauseIndexModel", "told", "(II)I"⟩ : Cond) ∈ mgw := mgw_in (mtin_7 (List.mem_of_getElem? (i := 168) (by decide +kernel))) (by decide +kernel)
set_option maxRecDepth 20000 in
theorem wd_806 : (Cond.methodLink "ClauseIndexModel" 369 ⟨"ClauseIndexModel", "isNoneAbove", "(II)Z"⟩ : Cond) ∈ mgw := mgw_in (mtin_7 (List.mem_of_getElem? (i := 183) (by decide +kernel))) (by decide +kernel)
set_option maxRecDepth 20000 in
theorem wd_807 : (Cond.instanceMethod ⟨"ClauseIndexModel", "isNoneAbove", "(II)Z"⟩ : Cond) ∈ mgw := mgw_in (mtin_7 (List.mem_of_getElem? (i := 185) (by decide +kernel))) (by decide +kernel)
theorem wd_808 : (Cond.selects "ClauseIndexModel" ⟨"ClauseIndexModel", "isNoneAbove", "(II)Z"⟩ ⟨"ClauseIndexModel", "isNoneAbove", "(II)Z"⟩ : Cond) ∈ mgw := mgw_in (List.mem_append_left _ (List.mem_of_getElem? (i := 87) (by decide +kernel))) (by decide +kernel)
set_option maxRecDepth 20000 in
theorem wd_809 : (Cond.methodLink "ClauseIndexModel" 372 ⟨"ClauseIndexModel", "pairsNow", "(II)I"⟩ : Cond) ∈ mgw := mgw_in (mtin_7 (List.mem_of_getElem? (i := 179) (by decide +kernel))) (by decide +kernel)
set_option maxRecDepth 20000 in
theorem wd_810 : (Cond.instanceMethod ⟨"ClauseIndexModel", "pairsNow", "(II)I"⟩ : Cond) ∈ mgw := mgw_in (mtin_7 (List.mem_of_getElem? (i := 181) (by decide +kernel))) (by decide +kernel)
theorem wd_811 : (Cond.selects "ClauseIndexModel" ⟨"ClauseIndexModel", "pairsNow", "(II)I"⟩ ⟨"ClauseIndexModel", "pairsNow", "(II)I"⟩ : Cond) ∈ mgw := mgw_in (List.mem_append_left _ (List.mem_of_getElem? (i := 86) (by decide +kernel))) (by decide +kernel)
set_option maxRecDepth 20000 in
theorem wd_812 : (Cond.constantLong "ClauseIndexModel" 375 (8388608 : Int64) : Cond) ∈ mgw := mgw_in (mtin_7 (List.mem_of_getElem? (i := 194) (by decide +kernel))) (by decide +kernel)
set_option maxRecDepth 20000 in
theorem wd_813 : (Cond.constantLong "ClauseIndexModel" 377 (149 : Int64) : Cond) ∈ mgw := mgw_in (mtin_7 (List.mem_of_getElem? (i := 195) (by decide +kernel))) (by decide +kernel)
set_option maxRecDepth 20000 in
theorem wd_814 : (Cond.static ⟨"ClauseIndexModel", "floatBits", "(II)I"⟩ : Cond) ∈ mgw := mgw_in (mtin_7 (List.mem_of_getElem? (i := 192) (by decide +kernel))) (by decide +kernel)
set_option maxRecDepth 20000 in
theorem wd_815 : (Cond.methodLink "ClauseIndexModel" 379 ⟨"ClauseIndexModel", "floatBits", "(II)I"⟩ : Cond) ∈ mgw := mgw_in (mtin_7 (List.mem_of_getElem? (i := 191) (by decide +kernel))) (by decide +kernel)
set_option maxRecDepth 20000 in
theorem wd_816 : (Cond.methodLink "ClauseIndexModel" 382 ⟨"ClauseIndexModel", "pairsBy", "(II)I"⟩ : Cond) ∈ mgw := mgw_in (mtin_7 (List.mem_of_getElem? (i := 200) (by decide +kernel))) (by decide +kernel)
set_option maxRecDepth 20000 in
theorem wd_817 : (Cond.instanceMethod ⟨"ClauseIndexModel", "pairsBy", "(II)I"⟩ : Cond) ∈ mgw := mgw_in (mtin_7 (List.mem_of_getElem? (i := 202) (by decide +kernel))) (by decide +kernel)
theorem wd_818 : (Cond.selects "ClauseIndexModel" ⟨"ClauseIndexModel", "pairsBy", "(II)I"⟩ ⟨"ClauseIndexModel", "pairsBy", "(II)I"⟩ : Cond) ∈ mgw := mgw_in (List.mem_append_left _ (List.mem_of_getElem? (i := 88) (by decide +kernel))) (by decide +kernel)
set_option maxRecDepth 20000 in
theorem wd_819 : (Cond.methodLink "ClauseIndexModel" 385 ⟨"ClauseIndexModel", "laysCovering", "(I)V"⟩ : Cond) ∈ mgw := mgw_in (mtin_7 (List.mem_of_getElem? (i := 212) (by decide +kernel))) (by decide +kernel)
set_option maxRecDepth 20000 in
theorem wd_820 : (Cond.instanceMethod ⟨"ClauseIndexModel", "laysCovering", "(I)V"⟩ : Cond) ∈ mgw := mgw_in (mtin_7 (List.mem_of_getElem? (i := 214) (by decide +kernel))) (by decide +kernel)
theorem wd_821 : (Cond.selects "ClauseIndexModel" ⟨"ClauseIndexModel", "laysCovering", "(I)V"⟩ ⟨"ClauseIndexModel", "laysCovering", "(I)V"⟩ : Cond) ∈ mgw := mgw_in (List.mem_append_left _ (List.mem_of_getElem? (i := 90) (by decide +kernel))) (by decide +kernel)
set_option maxRecDepth 20000 in
theorem wd_822 : (Cond.methodLink "ClauseIndexModel" 388 ⟨"ClauseIndexModel", "redundantNow", "(I)I"⟩ : Cond) ∈ mgw := mgw_in (mtin_7 (List.mem_of_getElem? (i := 208) (by decide +kernel))) (by decide +kernel)
set_option maxRecDepth 20000 in
theorem wd_823 : (Cond.instanceMethod ⟨"ClauseIndexModel", "redundantNow", "(I)I"⟩ : Cond) ∈ mgw := mgw_in (mtin_7 (List.mem_of_getElem? (i := 210) (by decide +kernel))) (by decide +kernel)
theorem wd_824 : (Cond.selects "ClauseIndexModel" ⟨"ClauseIndexModel", "redundantNow", "(I)I"⟩ ⟨"ClauseIndexModel", "redundantNow", "(I)I"⟩ : Cond) ∈ mgw := mgw_in (List.mem_append_left _ (List.mem_of_getElem? (i := 89) (by decide +kernel))) (by decide +kernel)
set_option maxRecDepth 20000 in
theorem wd_825 : (Cond.methodLink "ClauseIndexModel" 391 ⟨"ClauseIndexModel", "isMoreGeneral", "(II)Z"⟩ : Cond) ∈ mgw := mgw_in (mtin_7 (List.mem_of_getElem? (i := 224) (by decide +kernel))) (by decide +kernel)
set_option maxRecDepth 20000 in
theorem wd_826 : (Cond.instanceMethod ⟨"ClauseIndexModel", "isMoreGeneral", "(II)Z"⟩ : Cond) ∈ mgw := mgw_in (mtin_7 (List.mem_of_getElem? (i := 226) (by decide +kernel))) (by decide +kernel)
theorem wd_827 : (Cond.selects "ClauseIndexModel" ⟨"ClauseIndexModel", "isMoreGeneral", "(II)Z"⟩ ⟨"ClauseIndexModel", "isMoreGeneral", "(II)Z"⟩ : Cond) ∈ mgw := mgw_in (List.mem_append_left _ (List.mem_of_getElem? (i := 91) (by decide +kernel))) (by decide +kernel)
set_option maxRecDepth 20000 in
theorem wd_828 : (Cond.methodLink "ClauseIndexModel" 394 ⟨"ClauseIndexModel", "laysChains", "()I"⟩ : Cond) ∈ mgw := mgw_in (mtin_7 (List.mem_of_getElem? (i := 232) (by decide +kernel))) (by decide +kernel)
set_option maxRecDepth 20000 in
theorem wd_829 : (Cond.instanceMethod ⟨"ClauseIndexModel", "laysChains", "()I"⟩ : Cond) ∈ mgw := mgw_in (mtin_7 (List.mem_of_getElem? (i := 234) (by decide +kernel))) (by decide +kernel)
theorem wd_830 : (Cond.selects "ClauseIndexModel" ⟨"ClauseIndexModel", "laysChains", "()I"⟩ ⟨"ClauseIndexModel", "laysChains", "()I"⟩ : Cond) ∈ mgw := mgw_in (List.mem_append_left _ (List.mem_of_getElem? (i := 92) (by decide +kernel))) (by decide +kernel)
set_option maxRecDepth 20000 in
theorem wd_831 : (Cond.constant "java/lang/Integer" 265 (1431655765 : Int32) : Cond) ∈ mgw := mgw_in (mtin_3 (List.mem_of_getElem? (i := 52) (by decide +kernel))) (by decide +kernel)
set_option maxRecDepth 20000 in
theorem wd_832 : (Cond.constant "java/lang/Integer" 266 (858993459 : Int32) : Cond) ∈ mgw := mgw_in (mtin_3 (List.mem_of_getElem? (i := 53) (by decide +kernel))) (by decide +kernel)
set_option maxRecDepth 20000 in
theorem wd_833 : (Cond.constant "java/lang/Integer" 267 (252645135 : Int32) : Cond) ∈ mgw := mgw_in (mtin_3 (List.mem_of_getElem? (i := 54) (by decide +kernel))) (by decide +kernel)
set_option maxRecDepth 20000 in
theorem wd_834 : (Cond.classLink "ClauseIndexLaw" 7 "ClauseIndex" : Cond) ∈ mgw := mgw_in (mtin_1 (List.mem_of_getElem? (i := 14) (by decide +kernel))) (by decide +kernel)
set_option maxRecDepth 20000 in
theorem wd_835 : (Cond.instantiable "ClauseIndex" 14 : Cond) ∈ mgw := mgw_in (mtin_1 (List.mem_of_getElem? (i := 15) (by decide +kernel))) (by decide +kernel)
set_option maxRecDepth 20000 in
theorem wd_836 : (Cond.instanceMethod ⟨"ClauseIndex", "<init>", "()V"⟩ : Cond) ∈ mgw := mgw_in (mtin_1 (List.mem_of_getElem? (i := 17) (by decide +kernel))) (by decide +kernel)
set_option maxRecDepth 20000 in
theorem wd_837 : (Cond.methodLink "ClauseIndexLaw" 9 ⟨"ClauseIndex", "<init>", "()V"⟩ : Cond) ∈ mgw := mgw_in (mtin_1 (List.mem_of_getElem? (i := 16) (by decide +kernel))) (by decide +kernel)
set_option maxRecDepth 20000 in
theorem wd_838 : (Cond.classLink "ClauseIndexLaw" 10 "ClauseIndexModel" : Cond) ∈ mgw := mgw_in (mtin_5 (List.mem_of_getElem? (i := 106) (by decide +kernel))) (by decide +kernel)
set_option maxRecDepth 20000 in
theorem wd_839 : (Cond.instantiable "ClauseIndexModel" 48 : Cond) ∈ mgw := mgw_in (mtin_5 (List.mem_of_getElem? (i := 107) (by decide +kernel))) (by decide +kernel)
set_option maxRecDepth 20000 in
theorem wd_840 : (Cond.instanceMethod ⟨"ClauseIndexModel", "<init>", "()V"⟩ : Cond) ∈ mgw := mgw_in (mtin_5 (List.mem_of_getElem? (i := 109) (by decide +kernel))) (by decide +kernel)
set_option maxRecDepth 20000 in
theorem wd_841 : (Cond.methodLink "ClauseIndexLaw" 12 ⟨"ClauseIndexModel", "<init>", "()V"⟩ : Cond) ∈ mgw := mgw_in (mtin_5 (List.mem_of_getElem? (i := 108) (by decide +kernel))) (by decide +kernel)
set_option maxRecDepth 20000 in
theorem wd_842 : (Cond.methodLink "ClauseIndexLaw" 13 ⟨"ClauseIndex", "feed", "(IIIII)I"⟩ : Cond) ∈ mgw := mgw_in (mtin_2 (List.mem_of_getElem? (i := 78) (by decide +kernel))) (by decide +kernel)
set_option maxRecDepth 20000 in
theorem wd_843 : (Cond.instanceMethod ⟨"ClauseIndex", "feed", "(IIIII)I"⟩ : Cond) ∈ mgw := mgw_in (mtin_2 (List.mem_of_getElem? (i := 79) (by decide +kernel))) (by decide +kernel)
set_option maxRecDepth 20000 in
theorem wd_844 : (Cond.selects "ClauseIndex" ⟨"ClauseIndex", "feed", "(IIIII)I"⟩ ⟨"ClauseIndex", "feed", "(IIIII)I"⟩ : Cond) ∈ mgw := mgw_in (mtin_2 (List.mem_of_getElem? (i := 80) (by decide +kernel))) (by decide +kernel)
set_option maxRecDepth 20000 in
theorem wd_845 : (Cond.methodLink "ClauseIndexLaw" 17 ⟨"ClauseIndexModel", "feed", "(IIIII)I"⟩ : Cond) ∈ mgw := mgw_in (mtin_6 (List.mem_of_getElem? (i := 18) (by decide +kernel))) (by decide +kernel)
set_option maxRecDepth 20000 in
theorem wd_846 : (Cond.instanceMethod ⟨"ClauseIndexModel", "feed", "(IIIII)I"⟩ : Cond) ∈ mgw := mgw_in (mtin_6 (List.mem_of_getElem? (i := 19) (by decide +kernel))) (by decide +kernel)
set_option maxRecDepth 20000 in
theorem wd_847 : (Cond.selects "ClauseIndexModel" ⟨"ClauseIndexModel", "feed", "(IIIII)I"⟩ ⟨"ClauseIndexModel", "feed", "(IIIII)I"⟩ : Cond) ∈ mgw := mgw_in (mtin_6 (List.mem_of_getElem? (i := 20) (by decide +kernel))) (by decide +kernel)
set_option maxRecDepth 20000 in
theorem wd_848 : (Cond.methodLink "ClauseIndexLaw" 18 ⟨"ClauseIndex", "add", "(I)I"⟩ : Cond) ∈ mgw := mgw_in (mtin_2 (List.mem_of_getElem? (i := 90) (by decide +kernel))) (by decide +kernel)
set_option maxRecDepth 20000 in
theorem wd_849 : (Cond.instanceMethod ⟨"ClauseIndex", "add", "(I)I"⟩ : Cond) ∈ mgw := mgw_in (mtin_2 (List.mem_of_getElem? (i := 91) (by decide +kernel))) (by decide +kernel)
set_option maxRecDepth 20000 in
theorem wd_850 : (Cond.selects "ClauseIndex" ⟨"ClauseIndex", "add", "(I)I"⟩ ⟨"ClauseIndex", "add", "(I)I"⟩ : Cond) ∈ mgw := mgw_in (mtin_2 (List.mem_of_getElem? (i := 92) (by decide +kernel))) (by decide +kernel)
set_option maxRecDepth 20000 in
theorem wd_851 : (Cond.methodLink "ClauseIndexLaw" 22 ⟨"ClauseIndexModel", "add", "(I)I"⟩ : Cond) ∈ mgw := mgw_in (mtin_6 (List.mem_of_getElem? (i := 22) (by decide +kernel))) (by decide +kernel)
set_option maxRecDepth 20000 in
theorem wd_852 : (Cond.instanceMethod ⟨"ClauseIndexModel", "add", "(I)I"⟩ : Cond) ∈ mgw := mgw_in (mtin_6 (List.mem_of_getElem? (i := 23) (by decide +kernel))) (by decide +kernel)
set_option maxRecDepth 20000 in
theorem wd_853 : (Cond.selects "ClauseIndexModel" ⟨"ClauseIndexModel", "add", "(I)I"⟩ ⟨"ClauseIndexModel", "add", "(I)I"⟩ : Cond) ∈ mgw := mgw_in (mtin_6 (List.mem_of_getElem? (i := 24) (by decide +kernel))) (by decide +kernel)
set_option maxRecDepth 20000 in
theorem wd_854 : (Cond.methodLink "ClauseIndexLaw" 23 ⟨"ClauseIndex", "query", "(I)I"⟩ : Cond) ∈ mgw := mgw_in (mtin_2 (List.mem_of_getElem? (i := 207) (by decide +kernel))) (by decide +kernel)
set_option maxRecDepth 20000 in
theorem wd_855 : (Cond.instanceMethod ⟨"ClauseIndex", "query", "(I)I"⟩ : Cond) ∈ mgw := mgw_in (mtin_2 (List.mem_of_getElem? (i := 208) (by decide +kernel))) (by decide +kernel)
set_option maxRecDepth 20000 in
theorem wd_856 : (Cond.selects "ClauseIndex" ⟨"ClauseIndex", "query", "(I)I"⟩ ⟨"ClauseIndex", "query", "(I)I"⟩ : Cond) ∈ mgw := mgw_in (mtin_2 (List.mem_of_getElem? (i := 209) (by decide +kernel))) (by decide +kernel)
set_option maxRecDepth 20000 in
theorem wd_857 : (Cond.methodLink "ClauseIndexLaw" 26 ⟨"ClauseIndexModel", "query", "(I)I"⟩ : Cond) ∈ mgw := mgw_in (mtin_6 (List.mem_of_getElem? (i := 91) (by decide +kernel))) (by decide +kernel)
set_option maxRecDepth 20000 in
theorem wd_858 : (Cond.instanceMethod ⟨"ClauseIndexModel", "query", "(I)I"⟩ : Cond) ∈ mgw := mgw_in (mtin_6 (List.mem_of_getElem? (i := 92) (by decide +kernel))) (by decide +kernel)
set_option maxRecDepth 20000 in
theorem wd_859 : (Cond.selects "ClauseIndexModel" ⟨"ClauseIndexModel", "query", "(I)I"⟩ ⟨"ClauseIndexModel", "query", "(I)I"⟩ : Cond) ∈ mgw := mgw_in (mtin_6 (List.mem_of_getElem? (i := 93) (by decide +kernel))) (by decide +kernel)
set_option maxRecDepth 20000 in
theorem wd_860 : (Cond.methodLink "ClauseIndexLaw" 27 ⟨"ClauseIndex", "apply", "(I)I"⟩ : Cond) ∈ mgw := mgw_in (mtin_2 (List.mem_of_getElem? (i := 215) (by decide +kernel))) (by decide +kernel)
set_option maxRecDepth 20000 in
theorem wd_861 : (Cond.instanceMethod ⟨"ClauseIndex", "apply", "(I)I"⟩ : Cond) ∈ mgw := mgw_in (mtin_2 (List.mem_of_getElem? (i := 216) (by decide +kernel))) (by decide +kernel)
set_option maxRecDepth 20000 in
theorem wd_862 : (Cond.selects "ClauseIndex" ⟨"ClauseIndex", "apply", "(I)I"⟩ ⟨"ClauseIndex", "apply", "(I)I"⟩ : Cond) ∈ mgw := mgw_in (mtin_2 (List.mem_of_getElem? (i := 217) (by decide +kernel))) (by decide +kernel)
set_option maxRecDepth 20000 in
theorem wd_863 : (Cond.methodLink "ClauseIndexLaw" 30 ⟨"ClauseIndexModel", "apply", "(I)I"⟩ : Cond) ∈ mgw := mgw_in (mtin_6 (List.mem_of_getElem? (i := 107) (by decide +kernel))) (by decide +kernel)
set_option maxRecDepth 20000 in
theorem wd_864 : (Cond.instanceMethod ⟨"ClauseIndexModel", "apply", "(I)I"⟩ : Cond) ∈ mgw := mgw_in (mtin_6 (List.mem_of_getElem? (i := 108) (by decide +kernel))) (by decide +kernel)
set_option maxRecDepth 20000 in
theorem wd_865 : (Cond.selects "ClauseIndexModel" ⟨"ClauseIndexModel", "apply", "(I)I"⟩ ⟨"ClauseIndexModel", "apply", "(I)I"⟩ : Cond) ∈ mgw := mgw_in (mtin_6 (List.mem_of_getElem? (i := 109) (by decide +kernel))) (by decide +kernel)
set_option maxRecDepth 20000 in
theorem wd_866 : (Cond.methodLink "ClauseIndexLaw" 31 ⟨"ClauseIndex", "fault", "(I)I"⟩ : Cond) ∈ mgw := mgw_in (mtin_3 (List.mem_of_getElem? (i := 20) (by decide +kernel))) (by decide +kernel)
set_option maxRecDepth 20000 in
theorem wd_867 : (Cond.instanceMethod ⟨"ClauseIndex", "fault", "(I)I"⟩ : Cond) ∈ mgw := mgw_in (mtin_3 (List.mem_of_getElem? (i := 21) (by decide +kernel))) (by decide +kernel)
set_option maxRecDepth 20000 in
theorem wd_868 : (Cond.selects "ClauseIndex" ⟨"ClauseIndex", "fault", "(I)I"⟩ ⟨"ClauseIndex", "fault", "(I)I"⟩ : Cond) ∈ mgw := mgw_in (mtin_3 (List.mem_of_getElem? (i := 22) (by decide +kernel))) (by decide +kernel)
set_option maxRecDepth 20000 in
theorem wd_869 : (Cond.methodLink "ClauseIndexLaw" 34 ⟨"ClauseIndexModel", "fault", "(I)I"⟩ : Cond) ∈ mgw := mgw_in (mtin_6 (List.mem_of_getElem? (i := 123) (by decide +kernel))) (by decide +kernel)
set_option maxRecDepth 20000 in
theorem wd_870 : (Cond.instanceMethod ⟨"ClauseIndexModel", "fault", "(I)I"⟩ : Cond) ∈ mgw := mgw_in (mtin_6 (List.mem_of_getElem? (i := 124) (by decide +kernel))) (by decide +kernel)
set_option maxRecDepth 20000 in
theorem wd_871 : (Cond.selects "ClauseIndexModel" ⟨"ClauseIndexModel", "fault", "(I)I"⟩ ⟨"ClauseIndexModel", "fault", "(I)I"⟩ : Cond) ∈ mgw := mgw_in (mtin_6 (List.mem_of_getElem? (i := 125) (by decide +kernel))) (by decide +kernel)
set_option maxRecDepth 20000 in
theorem wd_872 : (Cond.methodLink "ClauseIndexLaw" 35 ⟨"ClauseIndex", "take", "(I)I"⟩ : Cond) ∈ mgw := mgw_in (mtin_3 (List.mem_of_getElem? (i := 28) (by decide +kernel))) (by decide +kernel)
set_option maxRecDepth 20000 in
theorem wd_873 : (Cond.instanceMethod ⟨"ClauseIndex", "take", "(I)I"⟩ : Cond) ∈ mgw := mgw_in (mtin_3 (List.mem_of_getElem? (i := 29) (by decide +kernel))) (by decide +kernel)
set_option maxRecDepth 20000 in
theorem wd_874 : (Cond.selects "ClauseIndex" ⟨"ClauseIndex", "take", "(I)I"⟩ ⟨"ClauseIndex", "take", "(I)I"⟩ : Cond) ∈ mgw := mgw_in (mtin_3 (List.mem_of_getElem? (i := 30) (by decide +kernel))) (by decide +kernel)
set_option maxRecDepth 20000 in
theorem wd_875 : (Cond.methodLink "ClauseIndexLaw" 38 ⟨"ClauseIndexModel", "take", "(I)I"⟩ : Cond) ∈ mgw := mgw_in (mtin_6 (List.mem_of_getElem? (i := 127) (by decide +kernel))) (by decide +kernel)
set_option maxRecDepth 20000 in
theorem wd_876 : (Cond.instanceMethod ⟨"ClauseIndexModel", "take", "(I)I"⟩ : Cond) ∈ mgw := mgw_in (mtin_6 (List.mem_of_getElem? (i := 128) (by decide +kernel))) (by decide +kernel)
set_option maxRecDepth 20000 in
theorem wd_877 : (Cond.selects "ClauseIndexModel" ⟨"ClauseIndexModel", "take", "(I)I"⟩ ⟨"ClauseIndexModel", "take", "(I)I"⟩ : Cond) ∈ mgw := mgw_in (mtin_6 (List.mem_of_getElem? (i := 129) (by decide +kernel))) (by decide +kernel)
set_option maxRecDepth 20000 in
theorem wd_878 : (Cond.methodLink "ClauseIndexLaw" 39 ⟨"ClauseIndex", "keep", "()I"⟩ : Cond) ∈ mgw := mgw_in (mtin_3 (List.mem_of_getElem? (i := 37) (by decide +kernel))) (by decide +kernel)
set_option maxRecDepth 20000 in
theorem wd_879 : (Cond.instanceMethod ⟨"ClauseIndex", "keep", "()I"⟩ : Cond) ∈ mgw := mgw_in (mtin_3 (List.mem_of_getElem? (i := 38) (by decide +kernel))) (by decide +kernel)
set_option maxRecDepth 20000 in
theorem wd_880 : (Cond.selects "ClauseIndex" ⟨"ClauseIndex", "keep", "()I"⟩ ⟨"ClauseIndex", "keep", "()I"⟩ : Cond) ∈ mgw := mgw_in (mtin_3 (List.mem_of_getElem? (i := 39) (by decide +kernel))) (by decide +kernel)
set_option maxRecDepth 20000 in
theorem wd_881 : (Cond.methodLink "ClauseIndexLaw" 43 ⟨"ClauseIndexModel", "keep", "()I"⟩ : Cond) ∈ mgw := mgw_in (mtin_6 (List.mem_of_getElem? (i := 140) (by decide +kernel))) (by decide +kernel)
set_option maxRecDepth 20000 in
theorem wd_882 : (Cond.instanceMethod ⟨"ClauseIndexModel", "keep", "()I"⟩ : Cond) ∈ mgw := mgw_in (mtin_6 (List.mem_of_getElem? (i := 141) (by decide +kernel))) (by decide +kernel)
set_option maxRecDepth 20000 in
theorem wd_883 : (Cond.selects "ClauseIndexModel" ⟨"ClauseIndexModel", "keep", "()I"⟩ ⟨"ClauseIndexModel", "keep", "()I"⟩ : Cond) ∈ mgw := mgw_in (mtin_6 (List.mem_of_getElem? (i := 142) (by decide +kernel))) (by decide +kernel)
set_option maxRecDepth 20000 in
theorem wd_884 : (Cond.methodLink "ClauseIndexLaw" 44 ⟨"ClauseIndex", "remove", "(I)I"⟩ : Cond) ∈ mgw := mgw_in (mtin_3 (List.mem_of_getElem? (i := 41) (by decide +kernel))) (by decide +kernel)
set_option maxRecDepth 20000 in
theorem wd_885 : (Cond.instanceMethod ⟨"ClauseIndex", "remove", "(I)I"⟩ : Cond) ∈ mgw := mgw_in (mtin_3 (List.mem_of_getElem? (i := 42) (by decide +kernel))) (by decide +kernel)
set_option maxRecDepth 20000 in
theorem wd_886 : (Cond.selects "ClauseIndex" ⟨"ClauseIndex", "remove", "(I)I"⟩ ⟨"ClauseIndex", "remove", "(I)I"⟩ : Cond) ∈ mgw := mgw_in (mtin_3 (List.mem_of_getElem? (i := 43) (by decide +kernel))) (by decide +kernel)
set_option maxRecDepth 20000 in
theorem wd_887 : (Cond.methodLink "ClauseIndexLaw" 47 ⟨"ClauseIndexModel", "remove", "(I)I"⟩ : Cond) ∈ mgw := mgw_in (mtin_6 (List.mem_of_getElem? (i := 144) (by decide +kernel))) (by decide +kernel)
set_option maxRecDepth 20000 in
theorem wd_888 : (Cond.instanceMethod ⟨"ClauseIndexModel", "remove", "(I)I"⟩ : Cond) ∈ mgw := mgw_in (mtin_6 (List.mem_of_getElem? (i := 145) (by decide +kernel))) (by decide +kernel)
set_option maxRecDepth 20000 in
theorem wd_889 : (Cond.selects "ClauseIndexModel" ⟨"ClauseIndexModel", "remove", "(I)I"⟩ ⟨"ClauseIndexModel", "remove", "(I)I"⟩ : Cond) ∈ mgw := mgw_in (mtin_6 (List.mem_of_getElem? (i := 146) (by decide +kernel))) (by decide +kernel)
set_option maxRecDepth 20000 in
theorem wd_890 : (Cond.methodLink "ClauseIndexLaw" 48 ⟨"ClauseIndex", "literals", "(I)I"⟩ : Cond) ∈ mgw := mgw_in (mtin_3 (List.mem_of_getElem? (i := 55) (by decide +kernel))) (by decide +kernel)
set_option maxRecDepth 20000 in
theorem wd_891 : (Cond.instanceMethod ⟨"ClauseIndex", "literals", "(I)I"⟩ : Cond) ∈ mgw := mgw_in (mtin_3 (List.mem_of_getElem? (i := 56) (by decide +kernel))) (by decide +kernel)
set_option maxRecDepth 20000 in
theorem wd_892 : (Cond.selects "ClauseIndex" ⟨"ClauseIndex", "literals", "(I)I"⟩ ⟨"ClauseIndex", "literals", "(I)I"⟩ : Cond) ∈ mgw := mgw_in (mtin_3 (List.mem_of_getElem? (i := 57) (by decide +kernel))) (by decide +kernel)
set_option maxRecDepth 20000 in
theorem wd_893 : (Cond.methodLink "ClauseIndexLaw" 51 ⟨"ClauseIndexModel", "literals", "(I)I"⟩ : Cond) ∈ mgw := mgw_in (mtin_6 (List.mem_of_getElem? (i := 173) (by decide +kernel))) (by decide +kernel)
set_option maxRecDepth 20000 in
theorem wd_894 : (Cond.instanceMethod ⟨"ClauseIndexModel", "literals", "(I)I"⟩ : Cond) ∈ mgw := mgw_in (mtin_6 (List.mem_of_getElem? (i := 174) (by decide +kernel))) (by decide +kernel)
set_option maxRecDepth 20000 in
theorem wd_895 : (Cond.selects "ClauseIndexModel" ⟨"ClauseIndexModel", "literals", "(I)I"⟩ ⟨"ClauseIndexModel", "literals", "(I)I"⟩ : Cond) ∈ mgw := mgw_in (mtin_6 (List.mem_of_getElem? (i := 175) (by decide +kernel))) (by decide +kernel)
set_option maxRecDepth 20000 in
theorem wd_896 : (Cond.methodLink "ClauseIndexLaw" 52 ⟨"ClauseIndex", "literal", "(III)I"⟩ : Cond) ∈ mgw := mgw_in (mtin_3 (List.mem_of_getElem? (i := 59) (by decide +kernel))) (by decide +kernel)
set_option maxRecDepth 20000 in
theorem wd_897 : (Cond.instanceMethod ⟨"ClauseIndex", "literal", "(III)I"⟩ : Cond) ∈ mgw := mgw_in (mtin_3 (List.mem_of_getElem? (i := 60) (by decide +kernel))) (by decide +kernel)
set_option maxRecDepth 20000 in
theorem wd_898 : (Cond.selects "ClauseIndex" ⟨"ClauseIndex", "literal", "(III)I"⟩ ⟨"ClauseIndex", "literal", "(III)I"⟩ : Cond) ∈ mgw := mgw_in (mtin_3 (List.mem_of_getElem? (i := 61) (by decide +kernel))) (by decide +kernel)
set_option maxRecDepth 20000 in
theorem wd_899 : (Cond.methodLink "ClauseIndexLaw" 56 ⟨"ClauseIndexModel", "literal", "(III)I"⟩ : Cond) ∈ mgw := mgw_in (mtin_6 (List.mem_of_getElem? (i := 177) (by decide +kernel))) (by decide +kernel)
set_option maxRecDepth 20000 in
theorem wd_900 : (Cond.instanceMethod ⟨"ClauseIndexModel", "literal", "(III)I"⟩ : Cond) ∈ mgw := mgw_in (mtin_6 (List.mem_of_getElem? (i := 178) (by decide +kernel))) (by decide +kernel)
set_option maxRecDepth 20000 in
theorem wd_901 : (Cond.selects "ClauseIndexModel" ⟨"ClauseIndexModel", "literal", "(III)I"⟩ ⟨"ClauseIndexModel", "literal", "(III)I"⟩ : Cond) ∈ mgw := mgw_in (mtin_6 (List.mem_of_getElem? (i := 179) (by decide +kernel))) (by decide +kernel)
set_option maxRecDepth 20000 in
theorem wd_902 : (Cond.methodLink "ClauseIndexLaw" 57 ⟨"ClauseIndex", "code", "(II)I"⟩ : Cond) ∈ mgw := mgw_in (mtin_3 (List.mem_of_getElem? (i := 73) (by decide +kernel))) (by decide +kernel)
set_option maxRecDepth 20000 in
theorem wd_903 : (Cond.instanceMethod ⟨"ClauseIndex", "code", "(II)I"⟩ : Cond) ∈ mgw := mgw_in (mtin_3 (List.mem_of_getElem? (i := 74) (by decide +kernel))) (by decide +kernel)
set_option maxRecDepth 20000 in
theorem wd_904 : (Cond.selects "ClauseIndex" ⟨"ClauseIndex", "code", "(II)I"⟩ ⟨"ClauseIndex", "code", "(II)I"⟩ : Cond) ∈ mgw := mgw_in (mtin_3 (List.mem_of_getElem? (i := 75) (by decide +kernel))) (by decide +kernel)
set_option maxRecDepth 20000 in
theorem wd_905 : (Cond.methodLink "ClauseIndexLaw" 61 ⟨"ClauseIndexModel", "code", "(II)I"⟩ : Cond) ∈ mgw := mgw_in (mtin_6 (List.mem_of_getElem? (i := 190) (by decide +kernel))) (by decide +kernel)
set_option maxRecDepth 20000 in
theorem wd_906 : (Cond.instanceMethod ⟨"ClauseIndexModel", "code", "(II)I"⟩ : Cond) ∈ mgw := mgw_in (mtin_6 (List.mem_of_getElem? (i := 191) (by decide +kernel))) (by decide +kernel)
set_option maxRecDepth 20000 in
theorem wd_907 : (Cond.selects "ClauseIndexModel" ⟨"ClauseIndexModel", "code", "(II)I"⟩ ⟨"ClauseIndexModel", "code", "(II)I"⟩ : Cond) ∈ mgw := mgw_in (mtin_6 (List.mem_of_getElem? (i := 192) (by decide +kernel))) (by decide +kernel)
set_option maxRecDepth 20000 in
theorem wd_908 : (Cond.methodLink "ClauseIndexLaw" 62 ⟨"ClauseIndex", "variables", "(I)I"⟩ : Cond) ∈ mgw := mgw_in (mtin_3 (List.mem_of_getElem? (i := 78) (by decide +kernel))) (by decide +kernel)
set_option maxRecDepth 20000 in
theorem wd_909 : (Cond.instanceMethod ⟨"ClauseIndex", "variables", "(I)I"⟩ : Cond) ∈ mgw := mgw_in (mtin_3 (List.mem_of_getElem? (i := 79) (by decide +kernel))) (by decide +kernel)
set_option maxRecDepth 20000 in
theorem wd_910 : (Cond.selects "ClauseIndex" ⟨"ClauseIndex", "variables", "(I)I"⟩ ⟨"ClauseIndex", "variables", "(I)I"⟩ : Cond) ∈ mgw := mgw_in (mtin_3 (List.mem_of_getElem? (i := 80) (by decide +kernel))) (by decide +kernel)
set_option maxRecDepth 20000 in
theorem wd_911 : (Cond.methodLink "ClauseIndexLaw" 65 ⟨"ClauseIndexModel", "variables", "(I)I"⟩ : Cond) ∈ mgw := mgw_in (mtin_6 (List.mem_of_getElem? (i := 194) (by decide +kernel))) (by decide +kernel)
set_option maxRecDepth 20000 in
theorem wd_912 : (Cond.instanceMethod ⟨"ClauseIndexModel", "variables", "(I)I"⟩ : Cond) ∈ mgw := mgw_in (mtin_6 (List.mem_of_getElem? (i := 195) (by decide +kernel))) (by decide +kernel)
set_option maxRecDepth 20000 in
theorem wd_913 : (Cond.selects "ClauseIndexModel" ⟨"ClauseIndexModel", "variables", "(I)I"⟩ ⟨"ClauseIndexModel", "variables", "(I)I"⟩ : Cond) ∈ mgw := mgw_in (mtin_6 (List.mem_of_getElem? (i := 196) (by decide +kernel))) (by decide +kernel)
set_option maxRecDepth 20000 in
theorem wd_914 : (Cond.methodLink "ClauseIndexLaw" 66 ⟨"ClauseIndex", "always", "(I)I"⟩ : Cond) ∈ mgw := mgw_in (mtin_3 (List.mem_of_getElem? (i := 87) (by decide +kernel))) (by decide +kernel)
set_option maxRecDepth 20000 in
theorem wd_915 : (Cond.instanceMethod ⟨"ClauseIndex", "always", "(I)I"⟩ : Cond) ∈ mgw := mgw_in (mtin_3 (List.mem_of_getElem? (i := 88) (by decide +kernel))) (by decide +kernel)
set_option maxRecDepth 20000 in
theorem wd_916 : (Cond.selects "ClauseIndex" ⟨"ClauseIndex", "always", "(I)I"⟩ ⟨"ClauseIndex", "always", "(I)I"⟩ : Cond) ∈ mgw := mgw_in (mtin_3 (List.mem_of_getElem? (i := 89) (by decide +kernel))) (by decide +kernel)
set_option maxRecDepth 20000 in
theorem wd_917 : (Cond.methodLink "ClauseIndexLaw" 69 ⟨"ClauseIndexModel", "always", "(I)I"⟩ : Cond) ∈ mgw := mgw_in (mtin_6 (List.mem_of_getElem? (i := 207) (by decide +kernel))) (by decide +kernel)
set_option maxRecDepth 20000 in
theorem wd_918 : (Cond.instanceMethod ⟨"ClauseIndexModel", "always", "(I)I"⟩ : Cond) ∈ mgw := mgw_in (mtin_6 (List.mem_of_getElem? (i := 208) (by decide +kernel))) (by decide +kernel)
set_option maxRecDepth 20000 in
theorem wd_919 : (Cond.selects "ClauseIndexModel" ⟨"ClauseIndexModel", "always", "(I)I"⟩ ⟨"ClauseIndexModel", "always", "(I)I"⟩ : Cond) ∈ mgw := mgw_in (mtin_6 (List.mem_of_getElem? (i := 209) (by decide +kernel))) (by decide +kernel)
set_option maxRecDepth 20000 in
theorem wd_920 : (Cond.methodLink "ClauseIndexLaw" 70 ⟨"ClauseIndex", "condensed", "(II)I"⟩ : Cond) ∈ mgw := mgw_in (mtin_3 (List.mem_of_getElem? (i := 101) (by decide +kernel))) (by decide +kernel)
set_option maxRecDepth 20000 in
theorem wd_921 : (Cond.instanceMethod ⟨"ClauseIndex", "condensed", "(II)I"⟩ : Cond) ∈ mgw := mgw_in (mtin_3 (List.mem_of_getElem? (i := 102) (by decide +kernel))) (by decide +kernel)
set_option maxRecDepth 20000 in
theorem wd_922 : (Cond.selects "ClauseIndex" ⟨"ClauseIndex", "condensed", "(II)I"⟩ ⟨"ClauseIndex", "condensed", "(II)I"⟩ : Cond) ∈ mgw := mgw_in (mtin_3 (List.mem_of_getElem? (i := 103) (by decide +kernel))) (by decide +kernel)
set_option maxRecDepth 20000 in
theorem wd_923 : (Cond.methodLink "ClauseIndexLaw" 73 ⟨"ClauseIndexModel", "condensed", "(II)I"⟩ : Cond) ∈ mgw := mgw_in (mtin_7 (List.mem_of_getElem? (i := 52) (by decide +kernel))) (by decide +kernel)
set_option maxRecDepth 20000 in
theorem wd_924 : (Cond.instanceMethod ⟨"ClauseIndexModel", "condensed", "(II)I"⟩ : Cond) ∈ mgw := mgw_in (mtin_7 (List.mem_of_getElem? (i := 53) (by decide +kernel))) (by decide +kernel)
set_option maxRecDepth 20000 in
theorem wd_925 : (Cond.selects "ClauseIndexModel" ⟨"ClauseIndexModel", "condensed", "(II)I"⟩ ⟨"ClauseIndexModel", "condensed", "(II)I"⟩ : Cond) ∈ mgw := mgw_in (mtin_7 (List.mem_of_getElem? (i := 54) (by decide +kernel))) (by decide +kernel)
set_option maxRecDepth 20000 in
theorem wd_926 : (Cond.methodLink "ClauseIndexLaw" 74 ⟨"ClauseIndex", "covers", "(III)I"⟩ : Cond) ∈ mgw := mgw_in (mtin_3 (List.mem_of_getElem? (i := 142) (by decide +kernel))) (by decide +kernel)
set_option maxRecDepth 20000 in
theorem wd_927 : (Cond.instanceMethod ⟨"ClauseIndex", "covers", "(III)I"⟩ : Cond) ∈ mgw := mgw_in (mtin_3 (List.mem_of_getElem? (i := 143) (by decide +kernel))) (by decide +kernel)
set_option maxRecDepth 20000 in
theorem wd_928 : (Cond.selects "ClauseIndex" ⟨"ClauseIndex", "covers", "(III)I"⟩ ⟨"ClauseIndex", "covers", "(III)I"⟩ : Cond) ∈ mgw := mgw_in (mtin_3 (List.mem_of_getElem? (i := 144) (by decide +kernel))) (by decide +kernel)
set_option maxRecDepth 20000 in
theorem wd_929 : (Cond.methodLink "ClauseIndexLaw" 77 ⟨"ClauseIndexModel", "covers", "(III)I"⟩ : Cond) ∈ mgw := mgw_in (mtin_6 (List.mem_of_getElem? (i := 215) (by decide +kernel))) (by decide +kernel)
set_option maxRecDepth 20000 in
theorem wd_930 : (Cond.instanceMethod ⟨"ClauseIndexModel", "covers", "(III)I"⟩ : Cond) ∈ mgw := mgw_in (mtin_6 (List.mem_of_getElem? (i := 216) (by decide +kernel))) (by decide +kernel)
set_option maxRecDepth 20000 in
theorem wd_931 : (Cond.selects "ClauseIndexModel" ⟨"ClauseIndexModel", "covers", "(III)I"⟩ ⟨"ClauseIndexModel", "covers", "(III)I"⟩ : Cond) ∈ mgw := mgw_in (mtin_6 (List.mem_of_getElem? (i := 217) (by decide +kernel))) (by decide +kernel)
set_option maxRecDepth 20000 in
theorem wd_932 : (Cond.methodLink "ClauseIndexLaw" 78 ⟨"ClauseIndex", "ways", "(III)I"⟩ : Cond) ∈ mgw := mgw_in (mtin_3 (List.mem_of_getElem? (i := 156) (by decide +kernel))) (by decide +kernel)
set_option maxRecDepth 20000 in
theorem wd_933 : (Cond.instanceMethod ⟨"ClauseIndex", "ways", "(III)I"⟩ : Cond) ∈ mgw := mgw_in (mtin_3 (List.mem_of_getElem? (i := 157) (by decide +kernel))) (by decide +kernel)
set_option maxRecDepth 20000 in
theorem wd_934 : (Cond.selects "ClauseIndex" ⟨"ClauseIndex", "ways", "(III)I"⟩ ⟨"ClauseIndex", "ways", "(III)I"⟩ : Cond) ∈ mgw := mgw_in (mtin_3 (List.mem_of_getElem? (i := 158) (by decide +kernel))) (by decide +kernel)
set_option maxRecDepth 20000 in
theorem wd_935 : (Cond.methodLink "ClauseIndexLaw" 81 ⟨"ClauseIndexModel", "ways", "(III)I"⟩ : Cond) ∈ mgw := mgw_in (mtin_7 (List.mem_of_getElem? (i := 10) (by decide +kernel))) (by decide +kernel)
set_option maxRecDepth 20000 in
theorem wd_936 : (Cond.instanceMethod ⟨"ClauseIndexModel", "ways", "(III)I"⟩ : Cond) ∈ mgw := mgw_in (mtin_7 (List.mem_of_getElem? (i := 11) (by decide +kernel))) (by decide +kernel)
set_option maxRecDepth 20000 in
theorem wd_937 : (Cond.selects "ClauseIndexModel" ⟨"ClauseIndexModel", "ways", "(III)I"⟩ ⟨"ClauseIndexModel", "ways", "(III)I"⟩ : Cond) ∈ mgw := mgw_in (mtin_7 (List.mem_of_getElem? (i := 12) (by decide +kernel))) (by decide +kernel)
set_option maxRecDepth 20000 in
theorem wd_938 : (Cond.methodLink "ClauseIndexLaw" 82 ⟨"ClauseIndex", "way", "(IIII)I"⟩ : Cond) ∈ mgw := mgw_in (mtin_3 (List.mem_of_getElem? (i := 165) (by decide +kernel))) (by decide +kernel)
set_option maxRecDepth 20000 in
theorem wd_939 : (Cond.instanceMethod ⟨"ClauseIndex", "way", "(IIII)I"⟩ : Cond) ∈ mgw := mgw_in (mtin_3 (List.mem_of_getElem? (i := 166) (by decide +kernel))) (by decide +kernel)
set_option maxRecDepth 20000 in
theorem wd_940 : (Cond.selects "ClauseIndex" ⟨"ClauseIndex", "way", "(IIII)I"⟩ ⟨"ClauseIndex", "way", "(IIII)I"⟩ : Cond) ∈ mgw := mgw_in (mtin_3 (List.mem_of_getElem? (i := 167) (by decide +kernel))) (by decide +kernel)
set_option maxRecDepth 20000 in
theorem wd_941 : (Cond.methodLink "ClauseIndexLaw" 86 ⟨"ClauseIndexModel", "way", "(IIII)I"⟩ : Cond) ∈ mgw := mgw_in (mtin_7 (List.mem_of_getElem? (i := 15) (by decide +kernel))) (by decide +kernel)
set_option maxRecDepth 20000 in
theorem wd_942 : (Cond.instanceMethod ⟨"ClauseIndexModel", "way", "(IIII)I"⟩ : Cond) ∈ mgw := mgw_in (mtin_7 (List.mem_of_getElem? (i := 16) (by decide +kernel))) (by decide +kernel)
set_option maxRecDepth 20000 in
theorem wd_943 : (Cond.selects "ClauseIndexModel" ⟨"ClauseIndexModel", "way", "(IIII)I"⟩ ⟨"ClauseIndexModel", "way", "(IIII)I"⟩ : Cond) ∈ mgw := mgw_in (mtin_7 (List.mem_of_getElem? (i := 17) (by decide +kernel))) (by decide +kernel)
set_option maxRecDepth 20000 in
theorem wd_944 : (Cond.methodLink "ClauseIndexLaw" 87 ⟨"ClauseIndex", "bound", "(IIIII)I"⟩ : Cond) ∈ mgw := mgw_in (mtin_3 (List.mem_of_getElem? (i := 173) (by decide +kernel))) (by decide +kernel)
set_option maxRecDepth 20000 in
theorem wd_945 : (Cond.instanceMethod ⟨"ClauseIndex", "bound", "(IIIII)I"⟩ : Cond) ∈ mgw := mgw_in (mtin_3 (List.mem_of_getElem? (i := 174) (by decide +kernel))) (by decide +kernel)
set_option maxRecDepth 20000 in
theorem wd_946 : (Cond.selects "ClauseIndex" ⟨"ClauseIndex", "bound", "(IIIII)I"⟩ ⟨"ClauseIndex", "bound", "(IIIII)I"⟩ : Cond) ∈ mgw := mgw_in (mtin_3 (List.mem_of_getElem? (i := 175) (by decide +kernel))) (by decide +kernel)
set_option maxRecDepth 20000 in
theorem wd_947 : (Cond.methodLink "ClauseIndexLaw" 90 ⟨"ClauseIndexModel", "bound", "(IIIII)I"⟩ : Cond) ∈ mgw := mgw_in (mtin_7 (List.mem_of_getElem? (i := 19) (by decide +kernel))) (by decide +kernel)
set_option maxRecDepth 20000 in
theorem wd_948 : (Cond.instanceMethod ⟨"ClauseIndexModel", "bound", "(IIIII)I"⟩ : Cond) ∈ mgw := mgw_in (mtin_7 (List.mem_of_getElem? (i := 20) (by decide +kernel))) (by decide +kernel)
set_option maxRecDepth 20000 in
theorem wd_949 : (Cond.selects "ClauseIndexModel" ⟨"ClauseIndexModel", "bound", "(IIIII)I"⟩ ⟨"ClauseIndexModel", "bound", "(IIIII)I"⟩ : Cond) ∈ mgw := mgw_in (mtin_7 (List.mem_of_getElem? (i := 21) (by decide +kernel))) (by decide +kernel)
set_option maxRecDepth 20000 in
theorem wd_950 : (Cond.methodLink "ClauseIndexLaw" 91 ⟨"ClauseIndex", "single", "(II)I"⟩ : Cond) ∈ mgw := mgw_in (mtin_3 (List.mem_of_getElem? (i := 182) (by decide +kernel))) (by decide +kernel)
set_option maxRecDepth 20000 in
theorem wd_951 : (Cond.instanceMethod ⟨"ClauseIndex", "single", "(II)I"⟩ : Cond) ∈ mgw := mgw_in (mtin_3 (List.mem_of_getElem? (i := 183) (by decide +kernel))) (by decide +kernel)
set_option maxRecDepth 20000 in
theorem wd_952 : (Cond.selects "ClauseIndex" ⟨"ClauseIndex", "single", "(II)I"⟩ ⟨"ClauseIndex", "single", "(II)I"⟩ : Cond) ∈ mgw := mgw_in (mtin_3 (List.mem_of_getElem? (i := 184) (by decide +kernel))) (by decide +kernel)
set_option maxRecDepth 20000 in
theorem wd_953 : (Cond.methodLink "ClauseIndexLaw" 94 ⟨"ClauseIndexModel", "single", "(II)I"⟩ : Cond) ∈ mgw := mgw_in (mtin_7 (List.mem_of_getElem? (i := 32) (by decide +kernel))) (by decide +kernel)
set_option maxRecDepth 20000 in
theorem wd_954 : (Cond.instanceMethod ⟨"ClauseIndexModel", "single", "(II)I"⟩ : Cond) ∈ mgw := mgw_in (mtin_7 (List.mem_of_getElem? (i := 33) (by decide +kernel))) (by decide +kernel)
set_option maxRecDepth 20000 in
theorem wd_955 : (Cond.selects "ClauseIndexModel" ⟨"ClauseIndexModel", "single", "(II)I"⟩ ⟨"ClauseIndexModel", "single", "(II)I"⟩ : Cond) ∈ mgw := mgw_in (mtin_7 (List.mem_of_getElem? (i := 34) (by decide +kernel))) (by decide +kernel)
set_option maxRecDepth 20000 in
theorem wd_956 : (Cond.methodLink "ClauseIndexLaw" 95 ⟨"ClauseIndex", "factor", "(III)I"⟩ : Cond) ∈ mgw := mgw_in (mtin_3 (List.mem_of_getElem? (i := 190) (by decide +kernel))) (by decide +kernel)
set_option maxRecDepth 20000 in
theorem wd_957 : (Cond.instanceMethod ⟨"ClauseIndex", "factor", "(III)I"⟩ : Cond) ∈ mgw := mgw_in (mtin_3 (List.mem_of_getElem? (i := 191) (by decide +kernel))) (by decide +kernel)
set_option maxRecDepth 20000 in
theorem wd_958 : (Cond.selects "ClauseIndex" ⟨"ClauseIndex", "factor", "(III)I"⟩ ⟨"ClauseIndex", "factor", "(III)I"⟩ : Cond) ∈ mgw := mgw_in (mtin_3 (List.mem_of_getElem? (i := 192) (by decide +kernel))) (by decide +kernel)
set_option maxRecDepth 20000 in
theorem wd_959 : (Cond.methodLink "ClauseIndexLaw" 98 ⟨"ClauseIndexModel", "factor", "(III)I"⟩ : Cond) ∈ mgw := mgw_in (mtin_7 (List.mem_of_getElem? (i := 36) (by decide +kernel))) (by decide +kernel)
set_option maxRecDepth 20000 in
theorem wd_960 : (Cond.instanceMethod ⟨"ClauseIndexModel", "factor", "(III)I"⟩ : Cond) ∈ mgw := mgw_in (mtin_7 (List.mem_of_getElem? (i := 37) (by decide +kernel))) (by decide +kernel)
set_option maxRecDepth 20000 in
theorem wd_961 : (Cond.selects "ClauseIndexModel" ⟨"ClauseIndexModel", "factor", "(III)I"⟩ ⟨"ClauseIndexModel", "factor", "(III)I"⟩ : Cond) ∈ mgw := mgw_in (mtin_7 (List.mem_of_getElem? (i := 38) (by decide +kernel))) (by decide +kernel)
set_option maxRecDepth 20000 in
theorem wd_962 : (Cond.methodLink "ClauseIndexLaw" 99 ⟨"ClauseIndex", "alike", "(II)I"⟩ : Cond) ∈ mgw := mgw_in (mtin_3 (List.mem_of_getElem? (i := 216) (by decide +kernel))) (by decide +kernel)
set_option maxRecDepth 20000 in
theorem wd_963 : (Cond.instanceMethod ⟨"ClauseIndex", "alike", "(II)I"⟩ : Cond) ∈ mgw := mgw_in (mtin_3 (List.mem_of_getElem? (i := 217) (by decide +kernel))) (by decide +kernel)
set_option maxRecDepth 20000 in
theorem wd_964 : (Cond.selects "ClauseIndex" ⟨"ClauseIndex", "alike", "(II)I"⟩ ⟨"ClauseIndex", "alike", "(II)I"⟩ : Cond) ∈ mgw := mgw_in (mtin_3 (List.mem_of_getElem? (i := 218) (by decide +kernel))) (by decide +kernel)
set_option maxRecDepth 20000 in
theorem wd_965 : (Cond.methodLink "ClauseIndexLaw" 102 ⟨"ClauseIndexModel", "alike", "(II)I"⟩ : Cond) ∈ mgw := mgw_in (mtin_7 (List.mem_of_getElem? (i := 24) (by decide +kernel))) (by decide +kernel)
set_option maxRecDepth 20000 in
theorem wd_966 : (Cond.instanceMethod ⟨"ClauseIndexModel", "alike", "(II)I"⟩ : Cond) ∈ mgw := mgw_in (mtin_7 (List.mem_of_getElem? (i := 25) (by decide +kernel))) (by decide +kernel)
set_option maxRecDepth 20000 in
theorem wd_967 : (Cond.selects "ClauseIndexModel" ⟨"ClauseIndexModel", "alike", "(II)I"⟩ ⟨"ClauseIndexModel", "alike", "(II)I"⟩ : Cond) ∈ mgw := mgw_in (mtin_7 (List.mem_of_getElem? (i := 26) (by decide +kernel))) (by decide +kernel)
set_option maxRecDepth 20000 in
theorem wd_968 : (Cond.methodLink "ClauseIndexLaw" 103 ⟨"ClauseIndex", "value", "(III)I"⟩ : Cond) ∈ mgw := mgw_in (mtin_3 (List.mem_of_getElem? (i := 224) (by decide +kernel))) (by decide +kernel)
set_option maxRecDepth 20000 in
theorem wd_969 : (Cond.instanceMethod ⟨"ClauseIndex", "value", "(III)I"⟩ : Cond) ∈ mgw := mgw_in (mtin_3 (List.mem_of_getElem? (i := 225) (by decide +kernel))) (by decide +kernel)
set_option maxRecDepth 20000 in
theorem wd_970 : (Cond.selects "ClauseIndex" ⟨"ClauseIndex", "value", "(III)I"⟩ ⟨"ClauseIndex", "value", "(III)I"⟩ : Cond) ∈ mgw := mgw_in (mtin_3 (List.mem_of_getElem? (i := 226) (by decide +kernel))) (by decide +kernel)
set_option maxRecDepth 20000 in
theorem wd_971 : (Cond.methodLink "ClauseIndexLaw" 106 ⟨"ClauseIndexModel", "value", "(III)I"⟩ : Cond) ∈ mgw := mgw_in (mtin_7 (List.mem_of_getElem? (i := 59) (by decide +kernel))) (by decide +kernel)
set_option maxRecDepth 20000 in
theorem wd_972 : (Cond.instanceMethod ⟨"ClauseIndexModel", "value", "(III)I"⟩ : Cond) ∈ mgw := mgw_in (mtin_7 (List.mem_of_getElem? (i := 60) (by decide +kernel))) (by decide +kernel)
set_option maxRecDepth 20000 in
theorem wd_973 : (Cond.selects "ClauseIndexModel" ⟨"ClauseIndexModel", "value", "(III)I"⟩ ⟨"ClauseIndexModel", "value", "(III)I"⟩ : Cond) ∈ mgw := mgw_in (mtin_7 (List.mem_of_getElem? (i := 61) (by decide +kernel))) (by decide +kernel)
set_option maxRecDepth 20000 in
theorem wd_974 : (Cond.methodLink "ClauseIndexLaw" 107 ⟨"ClauseIndex", "power", "(II)I"⟩ : Cond) ∈ mgw := mgw_in (mtin_3 (List.mem_of_getElem? (i := 239) (by decide +kernel))) (by decide +kernel)
set_option maxRecDepth 20000 in
theorem wd_975 : (Cond.instanceMethod ⟨"ClauseIndex", "power", "(II)I"⟩ : Cond) ∈ mgw := mgw_in (mtin_4 (List.mem_of_getElem? (i := 0) (by decide +kernel))) (by decide +kernel)
set_option maxRecDepth 20000 in
theorem wd_976 : (Cond.selects "ClauseIndex" ⟨"ClauseIndex", "power", "(II)I"⟩ ⟨"ClauseIndex", "power", "(II)I"⟩ : Cond) ∈ mgw := mgw_in (mtin_4 (List.mem_of_getElem? (i := 1) (by decide +kernel))) (by decide +kernel)
set_option maxRecDepth 20000 in
theorem wd_977 : (Cond.methodLink "ClauseIndexLaw" 110 ⟨"ClauseIndexModel", "power", "(II)I"⟩ : Cond) ∈ mgw := mgw_in (mtin_7 (List.mem_of_getElem? (i := 75) (by decide +kernel))) (by decide +kernel)
set_option maxRecDepth 20000 in
theorem wd_978 : (Cond.instanceMethod ⟨"ClauseIndexModel", "power", "(II)I"⟩ : Cond) ∈ mgw := mgw_in (mtin_7 (List.mem_of_getElem? (i := 76) (by decide +kernel))) (by decide +kernel)
set_option maxRecDepth 20000 in
theorem wd_979 : (Cond.selects "ClauseIndexModel" ⟨"ClauseIndexModel", "power", "(II)I"⟩ ⟨"ClauseIndexModel", "power", "(II)I"⟩ : Cond) ∈ mgw := mgw_in (mtin_7 (List.mem_of_getElem? (i := 77) (by decide +kernel))) (by decide +kernel)
set_option maxRecDepth 20000 in
theorem wd_980 : (Cond.methodLink "ClauseIndexLaw" 111 ⟨"ClauseIndex", "choose", "(II)I"⟩ : Cond) ∈ mgw := mgw_in (mtin_4 (List.mem_of_getElem? (i := 13) (by decide +kernel))) (by decide +kernel)
set_option maxRecDepth 20000 in
theorem wd_981 : (Cond.instanceMethod ⟨"ClauseIndex", "choose", "(II)I"⟩ : Cond) ∈ mgw := mgw_in (mtin_4 (List.mem_of_getElem? (i := 14) (by decide +kernel))) (by decide +kernel)
set_option maxRecDepth 20000 in
theorem wd_982 : (Cond.selects "ClauseIndex" ⟨"ClauseIndex", "choose", "(II)I"⟩ ⟨"ClauseIndex", "choose", "(II)I"⟩ : Cond) ∈ mgw := mgw_in (mtin_4 (List.mem_of_getElem? (i := 15) (by decide +kernel))) (by decide +kernel)
set_option maxRecDepth 20000 in
theorem wd_983 : (Cond.methodLink "ClauseIndexLaw" 114 ⟨"ClauseIndexModel", "choose", "(II)I"⟩ : Cond) ∈ mgw := mgw_in (mtin_7 (List.mem_of_getElem? (i := 87) (by decide +kernel))) (by decide +kernel)
set_option maxRecDepth 20000 in
theorem wd_984 : (Cond.instanceMethod ⟨"ClauseIndexModel", "choose", "(II)I"⟩ : Cond) ∈ mgw := mgw_in (mtin_7 (List.mem_of_getElem? (i := 88) (by decide +kernel))) (by decide +kernel)
set_option maxRecDepth 20000 in
theorem wd_985 : (Cond.selects "ClauseIndexModel" ⟨"ClauseIndexModel", "choose", "(II)I"⟩ ⟨"ClauseIndexModel", "choose", "(II)I"⟩ : Cond) ∈ mgw := mgw_in (mtin_7 (List.mem_of_getElem? (i := 89) (by decide +kernel))) (by decide +kernel)
set_option maxRecDepth 20000 in
theorem wd_986 : (Cond.methodLink "ClauseIndexLaw" 115 ⟨"ClauseIndex", "greedy", "(II)I"⟩ : Cond) ∈ mgw := mgw_in (mtin_4 (List.mem_of_getElem? (i := 59) (by decide +kernel))) (by decide +kernel)
set_option maxRecDepth 20000 in
theorem wd_987 : (Cond.instanceMethod ⟨"ClauseIndex", "greedy", "(II)I"⟩ : Cond) ∈ mgw := mgw_in (mtin_4 (List.mem_of_getElem? (i := 60) (by decide +kernel))) (by decide +kernel)
set_option maxRecDepth 20000 in
theorem wd_988 : (Cond.selects "ClauseIndex" ⟨"ClauseIndex", "greedy", "(II)I"⟩ ⟨"ClauseIndex", "greedy", "(II)I"⟩ : Cond) ∈ mgw := mgw_in (mtin_4 (List.mem_of_getElem? (i := 61) (by decide +kernel))) (by decide +kernel)
set_option maxRecDepth 20000 in
theorem wd_989 : (Cond.methodLink "ClauseIndexLaw" 118 ⟨"ClauseIndexModel", "greedy", "(II)I"⟩ : Cond) ∈ mgw := mgw_in (mtin_7 (List.mem_of_getElem? (i := 108) (by decide +kernel))) (by decide +kernel)
set_option maxRecDepth 20000 in
theorem wd_990 : (Cond.instanceMethod ⟨"ClauseIndexModel", "greedy", "(II)I"⟩ : Cond) ∈ mgw := mgw_in (mtin_7 (List.mem_of_getElem? (i := 109) (by decide +kernel))) (by decide +kernel)
set_option maxRecDepth 20000 in
theorem wd_991 : (Cond.selects "ClauseIndexModel" ⟨"ClauseIndexModel", "greedy", "(II)I"⟩ ⟨"ClauseIndexModel", "greedy", "(II)I"⟩ : Cond) ∈ mgw := mgw_in (mtin_7 (List.mem_of_getElem? (i := 110) (by decide +kernel))) (by decide +kernel)
set_option maxRecDepth 20000 in
theorem wd_992 : (Cond.methodLink "ClauseIndexLaw" 119 ⟨"ClauseIndex", "lay", "(I)I"⟩ : Cond) ∈ mgw := mgw_in (mtin_4 (List.mem_of_getElem? (i := 94) (by decide +kernel))) (by decide +kernel)
set_option maxRecDepth 20000 in
theorem wd_993 : (Cond.instanceMethod ⟨"ClauseIndex", "lay", "(I)I"⟩ : Cond) ∈ mgw := mgw_in (mtin_4 (List.mem_of_getElem? (i := 95) (by decide +kernel))) (by decide +kernel)
set_option maxRecDepth 20000 in
theorem wd_994 : (Cond.selects "ClauseIndex" ⟨"ClauseIndex", "lay", "(I)I"⟩ ⟨"ClauseIndex", "lay", "(I)I"⟩ : Cond) ∈ mgw := mgw_in (mtin_4 (List.mem_of_getElem? (i := 96) (by decide +kernel))) (by decide +kernel)
set_option maxRecDepth 20000 in
theorem wd_995 : (Cond.methodLink "ClauseIndexLaw" 122 ⟨"ClauseIndexModel", "lay", "(I)I"⟩ : Cond) ∈ mgw := mgw_in (mtin_7 (List.mem_of_getElem? (i := 120) (by decide +kernel))) (by decide +kernel)
set_option maxRecDepth 20000 in
theorem wd_996 : (Cond.instanceMethod ⟨"ClauseIndexModel", "lay", "(I)I"⟩ : Cond) ∈ mgw := mgw_in (mtin_7 (List.mem_of_getElem? (i := 121) (by decide +kernel))) (by decide +kernel)
set_option maxRecDepth 20000 in
theorem wd_997 : (Cond.selects "ClauseIndexModel" ⟨"ClauseIndexModel", "lay", "(I)I"⟩ ⟨"ClauseIndexModel", "lay", "(I)I"⟩ : Cond) ∈ mgw := mgw_in (mtin_7 (List.mem_of_getElem? (i := 122) (by decide +kernel))) (by decide +kernel)
set_option maxRecDepth 20000 in
theorem wd_998 : (Cond.methodLink "ClauseIndexLaw" 123 ⟨"ClauseIndex", "unlay", "()I"⟩ : Cond) ∈ mgw := mgw_in (mtin_4 (List.mem_of_getElem? (i := 104) (by decide +kernel))) (by decide +kernel)
set_option maxRecDepth 20000 in
theorem wd_999 : (Cond.instanceMethod ⟨"ClauseIndex", "unlay", "()I"⟩ : Cond) ∈ mgw := mgw_in (mtin_4 (List.mem_of_getElem? (i := 105) (by decide +kernel))) (by decide +kernel)
set_option maxRecDepth 20000 in
theorem wd_1000 : (Cond.selects "ClauseIndex" ⟨"ClauseIndex", "unlay", "()I"⟩ ⟨"ClauseIndex", "unlay", "()I"⟩ : Cond) ∈ mgw := mgw_in (mtin_4 (List.mem_of_getElem? (i := 106) (by decide +kernel))) (by decide +kernel)
set_option maxRecDepth 20000 in
theorem wd_1001 : (Cond.methodLink "ClauseIndexLaw" 126 ⟨"ClauseIndexModel", "unlay", "()I"⟩ : Cond) ∈ mgw := mgw_in (mtin_7 (List.mem_of_getElem? (i := 124) (by decide +kernel))) (by decide +kernel)
set_option maxRecDepth 20000 in
theorem wd_1002 : (Cond.instanceMethod ⟨"ClauseIndexModel", "unlay", "()I"⟩ : Cond) ∈ mgw := mgw_in (mtin_7 (List.mem_of_getElem? (i := 125) (by decide +kernel))) (by decide +kernel)
set_option maxRecDepth 20000 in
theorem wd_1003 : (Cond.selects "ClauseIndexModel" ⟨"ClauseIndexModel", "unlay", "()I"⟩ ⟨"ClauseIndexModel", "unlay", "()I"⟩ : Cond) ∈ mgw := mgw_in (mtin_7 (List.mem_of_getElem? (i := 126) (by decide +kernel))) (by decide +kernel)
set_option maxRecDepth 20000 in
theorem wd_1004 : (Cond.methodLink "ClauseIndexLaw" 127 ⟨"ClauseIndex", "order", "(I)I"⟩ : Cond) ∈ mgw := mgw_in (mtin_4 (List.mem_of_getElem? (i := 112) (by decide +kernel))) (by decide +kernel)
set_option maxRecDepth 20000 in
theorem wd_1005 : (Cond.instanceMethod ⟨"ClauseIndex", "order", "(I)I"⟩ : Cond) ∈ mgw := mgw_in (mtin_4 (List.mem_of_getElem? (i := 113) (by decide +kernel))) (by decide +kernel)
set_option maxRecDepth 20000 in
theorem wd_1006 : (Cond.selects "ClauseIndex" ⟨"ClauseIndex", "order", "(I)I"⟩ ⟨"ClauseIndex", "order", "(I)I"⟩ : Cond) ∈ mgw := mgw_in (mtin_4 (List.mem_of_getElem? (i := 114) (by decide +kernel))) (by decide +kernel)
set_option maxRecDepth 20000 in
theorem wd_1007 : (Cond.methodLink "ClauseIndexLaw" 130 ⟨"ClauseIndexModel", "order", "(I)I"⟩ : Cond) ∈ mgw := mgw_in (mtin_7 (List.mem_of_getElem? (i := 128) (by decide +kernel))) (by decide +kernel)
set_option maxRecDepth 20000 in
theorem wd_1008 : (Cond.instanceMethod ⟨"ClauseIndexModel", "order", "(I)I"⟩ : Cond) ∈ mgw := mgw_in (mtin_7 (List.mem_of_getElem? (i := 129) (by decide +kernel))) (by decide +kernel)
set_option maxRecDepth 20000 in
theorem wd_1009 : (Cond.selects "ClauseIndexModel" ⟨"ClauseIndexModel", "order", "(I)I"⟩ ⟨"ClauseIndexModel", "order", "(I)I"⟩ : Cond) ∈ mgw := mgw_in (mtin_7 (List.mem_of_getElem? (i := 130) (by decide +kernel))) (by decide +kernel)
set_option maxRecDepth 20000 in
theorem wd_1010 : (Cond.methodLink "ClauseIndexLaw" 131 ⟨"ClauseIndex", "nodes", "()I"⟩ : Cond) ∈ mgw := mgw_in (mtin_4 (List.mem_of_getElem? (i := 117) (by decide +kernel))) (by decide +kernel)
set_option maxRecDepth 20000 in
theorem wd_1011 : (Cond.instanceMethod ⟨"ClauseIndex", "nodes", "()I"⟩ : Cond) ∈ mgw := mgw_in (mtin_4 (List.mem_of_getElem? (i := 118) (by decide +kernel))) (by decide +kernel)
set_option maxRecDepth 20000 in
theorem wd_1012 : (Cond.selects "ClauseIndex" ⟨"ClauseIndex", "nodes", "()I"⟩ ⟨"ClauseIndex", "nodes", "()I"⟩ : Cond) ∈ mgw := mgw_in (mtin_4 (List.mem_of_getElem? (i := 119) (by decide +kernel))) (by decide +kernel)
set_option maxRecDepth 20000 in
theorem wd_1013 : (Cond.methodLink "ClauseIndexLaw" 134 ⟨"ClauseIndexModel", "nodes", "()I"⟩ : Cond) ∈ mgw := mgw_in (mtin_7 (List.mem_of_getElem? (i := 132) (by decide +kernel))) (by decide +kernel)
set_option maxRecDepth 20000 in
theorem wd_1014 : (Cond.instanceMethod ⟨"ClauseIndexModel", "nodes", "()I"⟩ : Cond) ∈ mgw := mgw_in (mtin_7 (List.mem_of_getElem? (i := 133) (by decide +kernel))) (by decide +kernel)
set_option maxRecDepth 20000 in
theorem wd_1015 : (Cond.selects "ClauseIndexModel" ⟨"ClauseIndexModel", "nodes", "()I"⟩ ⟨"ClauseIndexModel", "nodes", "()I"⟩ : Cond) ∈ mgw := mgw_in (mtin_7 (List.mem_of_getElem? (i := 134) (by decide +kernel))) (by decide +kernel)
set_option maxRecDepth 20000 in
theorem wd_1016 : (Cond.methodLink "ClauseIndexLaw" 135 ⟨"ClauseIndex", "node", "(II)I"⟩ : Cond) ∈ mgw := mgw_in (mtin_4 (List.mem_of_getElem? (i := 121) (by decide +kernel))) (by decide +kernel)
set_option maxRecDepth 20000 in
theorem wd_1017 : (Cond.instanceMethod ⟨"ClauseIndex", "node", "(II)I"⟩ : Cond) ∈ mgw := mgw_in (mtin_4 (List.mem_of_getElem? (i := 122) (by decide +kernel))) (by decide +kernel)
set_option maxRecDepth 20000 in
theorem wd_1018 : (Cond.selects "ClauseIndex" ⟨"ClauseIndex", "node", "(II)I"⟩ ⟨"ClauseIndex", "node", "(II)I"⟩ : Cond) ∈ mgw := mgw_in (mtin_4 (List.mem_of_getElem? (i := 123) (by decide +kernel))) (by decide +kernel)
set_option maxRecDepth 20000 in
theorem wd_1019 : (Cond.methodLink "ClauseIndexLaw" 138 ⟨"ClauseIndexModel", "node", "(II)I"⟩ : Cond) ∈ mgw := mgw_in (mtin_7 (List.mem_of_getElem? (i := 136) (by decide +kernel))) (by decide +kernel)
set_option maxRecDepth 20000 in
theorem wd_1020 : (Cond.instanceMethod ⟨"ClauseIndexModel", "node", "(II)I"⟩ : Cond) ∈ mgw := mgw_in (mtin_7 (List.mem_of_getElem? (i := 137) (by decide +kernel))) (by decide +kernel)
set_option maxRecDepth 20000 in
theorem wd_1021 : (Cond.selects "ClauseIndexModel" ⟨"ClauseIndexModel", "node", "(II)I"⟩ ⟨"ClauseIndexModel", "node", "(II)I"⟩ : Cond) ∈ mgw := mgw_in (mtin_7 (List.mem_of_getElem? (i := 138) (by decide +kernel))) (by decide +kernel)
set_option maxRecDepth 20000 in
theorem wd_1022 : (Cond.methodLink "ClauseIndexLaw" 139 ⟨"ClauseIndex", "at", "(I)I"⟩ : Cond) ∈ mgw := mgw_in (mtin_4 (List.mem_of_getElem? (i := 141) (by decide +kernel))) (by decide +kernel)
set_option maxRecDepth 20000 in
theorem wd_1023 : (Cond.instanceMethod ⟨"ClauseIndex", "at", "(I)I"⟩ : Cond) ∈ mgw := mgw_in (mtin_4 (List.mem_of_getElem? (i := 142) (by decide +kernel))) (by decide +kernel)
set_option maxRecDepth 20000 in
theorem wd_1024 : (Cond.selects "ClauseIndex" ⟨"ClauseIndex", "at", "(I)I"⟩ ⟨"ClauseIndex", "at", "(I)I"⟩ : Cond) ∈ mgw := mgw_in (mtin_4 (List.mem_of_getElem? (i := 143) (by decide +kernel))) (by decide +kernel)
set_option maxRecDepth 20000 in
theorem wd_1025 : (Cond.methodLink "ClauseIndexLaw" 142 ⟨"ClauseIndexModel", "at", "(I)I"⟩ : Cond) ∈ mgw := mgw_in (mtin_7 (List.mem_of_getElem? (i := 141) (by decide +kernel))) (by decide +kernel)
set_option maxRecDepth 20000 in
theorem wd_1026 : (Cond.instanceMethod ⟨"ClauseIndexModel", "at", "(I)I"⟩ : Cond) ∈ mgw := mgw_in (mtin_7 (List.mem_of_getElem? (i := 142) (by decide +kernel))) (by decide +kernel)
set_option maxRecDepth 20000 in
theorem wd_1027 : (Cond.selects "ClauseIndexModel" ⟨"ClauseIndexModel", "at", "(I)I"⟩ ⟨"ClauseIndexModel", "at", "(I)I"⟩ : Cond) ∈ mgw := mgw_in (mtin_7 (List.mem_of_getElem? (i := 143) (by decide +kernel))) (by decide +kernel)
set_option maxRecDepth 20000 in
theorem wd_1028 : (Cond.methodLink "ClauseIndexLaw" 143 ⟨"ClauseIndex", "forward", "(II)I"⟩ : Cond) ∈ mgw := mgw_in (mtin_4 (List.mem_of_getElem? (i := 151) (by decide +kernel))) (by decide +kernel)
set_option maxRecDepth 20000 in
theorem wd_1029 : (Cond.instanceMethod ⟨"ClauseIndex", "forward", "(II)I"⟩ : Cond) ∈ mgw := mgw_in (mtin_4 (List.mem_of_getElem? (i := 152) (by decide +kernel))) (by decide +kernel)
set_option maxRecDepth 20000 in
theorem wd_1030 : (Cond.selects "ClauseIndex" ⟨"ClauseIndex", "forward", "(II)I"⟩ ⟨"ClauseIndex", "forward", "(II)I"⟩ : Cond) ∈ mgw := mgw_in (mtin_4 (List.mem_of_getElem? (i := 153) (by decide +kernel))) (by decide +kernel)
set_option maxRecDepth 20000 in
theorem wd_1031 : (Cond.methodLink "ClauseIndexLaw" 146 ⟨"ClauseIndexModel", "forward", "(II)I"⟩ : Cond) ∈ mgw := mgw_in (mtin_7 (List.mem_of_getElem? (i := 164) (by decide +kernel))) (by decide +kernel)
set_option maxRecDepth 20000 in
theorem wd_1032 : (Cond.instanceMethod ⟨"ClauseIndexModel", "forward", "(II)I"⟩ : Cond) ∈ mgw := mgw_in (mtin_7 (List.mem_of_getElem? (i := 165) (by decide +kernel))) (by decide +kernel)
set_option maxRecDepth 20000 in
theorem wd_1033 : (Cond.selects "ClauseIndexModel" ⟨"ClauseIndexModel", "forward", "(II)I"⟩ ⟨"ClauseIndexModel", "forward", "(II)I"⟩ : Cond) ∈ mgw := mgw_in (mtin_7 (List.mem_of_getElem? (i := 166) (by decide +kernel))) (by decide +kernel)
set_option maxRecDepth 20000 in
theorem wd_1034 : (Cond.methodLink "ClauseIndexLaw" 147 ⟨"ClauseIndex", "backward", "(II)I"⟩ : Cond) ∈ mgw := mgw_in (mtin_4 (List.mem_of_getElem? (i := 162) (by decide +kernel))) (by decide +kernel)
set_option maxRecDepth 20000 in
theorem wd_1035 : (Cond.instanceMethod ⟨"ClauseIndex", "backward", "(II)I"⟩ : Cond) ∈ mgw := mgw_in (mtin_4 (List.mem_of_getElem? (i := 163) (by decide +kernel))) (by decide +kernel)
set_option maxRecDepth 20000 in
theorem wd_1036 : (Cond.selects "ClauseIndex" ⟨"ClauseIndex", "backward", "(II)I"⟩ ⟨"ClauseIndex", "backward", "(II)I"⟩ : Cond) ∈ mgw := mgw_in (mtin_4 (List.mem_of_getElem? (i := 164) (by decide +kernel))) (by decide +kernel)
set_option maxRecDepth 20000 in
theorem wd_1037 : (Cond.methodLink "ClauseIndexLaw" 150 ⟨"ClauseIndexModel", "backward", "(II)I"⟩ : Cond) ∈ mgw := mgw_in (mtin_7 (List.mem_of_getElem? (i := 171) (by decide +kernel))) (by decide +kernel)
set_option maxRecDepth 20000 in
theorem wd_1038 : (Cond.instanceMethod ⟨"ClauseIndexModel", "backward", "(II)I"⟩ : Cond) ∈ mgw := mgw_in (mtin_7 (List.mem_of_getElem? (i := 172) (by decide +kernel))) (by decide +kernel)
set_option maxRecDepth 20000 in
theorem wd_1039 : (Cond.selects "ClauseIndexModel" ⟨"ClauseIndexModel", "backward", "(II)I"⟩ ⟨"ClauseIndexModel", "backward", "(II)I"⟩ : Cond) ∈ mgw := mgw_in (mtin_7 (List.mem_of_getElem? (i := 173) (by decide +kernel))) (by decide +kernel)
set_option maxRecDepth 20000 in
theorem wd_1040 : (Cond.methodLink "ClauseIndexLaw" 151 ⟨"ClauseIndex", "visited", "(II)I"⟩ : Cond) ∈ mgw := mgw_in (mtin_4 (List.mem_of_getElem? (i := 166) (by decide +kernel))) (by decide +kernel)
set_option maxRecDepth 20000 in
theorem wd_1041 : (Cond.instanceMethod ⟨"ClauseIndex", "visited", "(II)I"⟩ : Cond) ∈ mgw := mgw_in (mtin_4 (List.mem_of_getElem? (i := 167) (by decide +kernel))) (by decide +kernel)
set_option maxRecDepth 20000 in
theorem wd_1042 : (Cond.selects "ClauseIndex" ⟨"ClauseIndex", "visited", "(II)I"⟩ ⟨"ClauseIndex", "visited", "(II)I"⟩ : Cond) ∈ mgw := mgw_in (mtin_4 (List.mem_of_getElem? (i := 168) (by decide +kernel))) (by decide +kernel)
set_option maxRecDepth 20000 in
theorem wd_1043 : (Cond.methodLink "ClauseIndexLaw" 154 ⟨"ClauseIndexModel", "visited", "(II)I"⟩ : Cond) ∈ mgw := mgw_in (mtin_7 (List.mem_of_getElem? (i := 145) (by decide +kernel))) (by decide +kernel)
set_option maxRecDepth 20000 in
theorem wd_1044 : (Cond.instanceMethod ⟨"ClauseIndexModel", "visited", "(II)I"⟩ : Cond) ∈ mgw := mgw_in (mtin_7 (List.mem_of_getElem? (i := 146) (by decide +kernel))) (by decide +kernel)
set_option maxRecDepth 20000 in
theorem wd_1045 : (Cond.selects "ClauseIndexModel" ⟨"ClauseIndexModel", "visited", "(II)I"⟩ ⟨"ClauseIndexModel", "visited", "(II)I"⟩ : Cond) ∈ mgw := mgw_in (mtin_7 (List.mem_of_getElem? (i := 147) (by decide +kernel))) (by decide +kernel)
set_option maxRecDepth 20000 in
theorem wd_1046 : (Cond.methodLink "ClauseIndexLaw" 155 ⟨"ClauseIndex", "candidates", "(II)I"⟩ : Cond) ∈ mgw := mgw_in (mtin_4 (List.mem_of_getElem? (i := 185) (by decide +kernel))) (by decide +kernel)
set_option maxRecDepth 20000 in
theorem wd_1047 : (Cond.instanceMethod ⟨"ClauseIndex", "candidates", "(II)I"⟩ : Cond) ∈ mgw := mgw_in (mtin_4 (List.mem_of_getElem? (i := 186) (by decide +kernel))) (by decide +kernel)
set_option maxRecDepth 20000 in
theorem wd_1048 : (Cond.selects "ClauseIndex" ⟨"ClauseIndex", "candidates", "(II)I"⟩ ⟨"ClauseIndex", "candidates", "(II)I"⟩ : Cond) ∈ mgw := mgw_in (mtin_4 (List.mem_of_getElem? (i := 187) (by decide +kernel))) (by decide +kernel)
set_option maxRecDepth 20000 in
theorem wd_1049 : (Cond.methodLink "ClauseIndexLaw" 158 ⟨"ClauseIndexModel", "candidates", "(II)I"⟩ : Cond) ∈ mgw := mgw_in (mtin_7 (List.mem_of_getElem? (i := 160) (by decide +kernel))) (by decide +kernel)
set_option maxRecDepth 20000 in
theorem wd_1050 : (Cond.instanceMethod ⟨"ClauseIndexModel", "candidates", "(II)I"⟩ : Cond) ∈ mgw := mgw_in (mtin_7 (List.mem_of_getElem? (i := 161) (by decide +kernel))) (by decide +kernel)
set_option maxRecDepth 20000 in
theorem wd_1051 : (Cond.selects "ClauseIndexModel" ⟨"ClauseIndexModel", "candidates", "(II)I"⟩ ⟨"ClauseIndexModel", "candidates", "(II)I"⟩ : Cond) ∈ mgw := mgw_in (mtin_7 (List.mem_of_getElem? (i := 162) (by decide +kernel))) (by decide +kernel)
set_option maxRecDepth 20000 in
theorem wd_1052 : (Cond.methodLink "ClauseIndexLaw" 159 ⟨"ClauseIndex", "total", "(II)I"⟩ : Cond) ∈ mgw := mgw_in (mtin_4 (List.mem_of_getElem? (i := 193) (by decide +kernel))) (by decide +kernel)
set_option maxRecDepth 20000 in
theorem wd_1053 : (Cond.instanceMethod ⟨"ClauseIndex", "total", "(II)I"⟩ : Cond) ∈ mgw := mgw_in (mtin_4 (List.mem_of_getElem? (i := 194) (by decide +kernel))) (by decide +kernel)
set_option maxRecDepth 20000 in
theorem wd_1054 : (Cond.selects "ClauseIndex" ⟨"ClauseIndex", "total", "(II)I"⟩ ⟨"ClauseIndex", "total", "(II)I"⟩ : Cond) ∈ mgw := mgw_in (mtin_4 (List.mem_of_getElem? (i := 195) (by decide +kernel))) (by decide +kernel)
set_option maxRecDepth 20000 in
theorem wd_1055 : (Cond.methodLink "ClauseIndexLaw" 162 ⟨"ClauseIndexModel", "total", "(II)I"⟩ : Cond) ∈ mgw := mgw_in (mtin_7 (List.mem_of_getElem? (i := 156) (by decide +kernel))) (by decide +kernel)
set_option maxRecDepth 20000 in
theorem wd_1056 : (Cond.instanceMethod ⟨"ClauseIndexModel", "total", "(II)I"⟩ : Cond) ∈ mgw := mgw_in (mtin_7 (List.mem_of_getElem? (i := 157) (by decide +kernel))) (by decide +kernel)
set_option maxRecDepth 20000 in
theorem wd_1057 : (Cond.selects "ClauseIndexModel" ⟨"ClauseIndexModel", "total", "(II)I"⟩ ⟨"ClauseIndexModel", "total", "(II)I"⟩ : Cond) ∈ mgw := mgw_in (mtin_7 (List.mem_of_getElem? (i := 158) (by decide +kernel))) (by decide +kernel)
set_option maxRecDepth 20000 in
theorem wd_1058 : (Cond.methodLink "ClauseIndexLaw" 163 ⟨"ClauseIndex", "pairs", "(II)I"⟩ : Cond) ∈ mgw := mgw_in (mtin_4 (List.mem_of_getElem? (i := 197) (by decide +kernel))) (by decide +kernel)
set_option maxRecDepth 20000 in
theorem wd_1059 : (Cond.instanceMethod ⟨"ClauseIndex", "pairs", "(II)I"⟩ : Cond) ∈ mgw := mgw_in (mtin_4 (List.mem_of_getElem? (i := 198) (by decide +kernel))) (by decide +kernel)
set_option maxRecDepth 20000 in
theorem wd_1060 : (Cond.selects "ClauseIndex" ⟨"ClauseIndex", "pairs", "(II)I"⟩ ⟨"ClauseIndex", "pairs", "(II)I"⟩ : Cond) ∈ mgw := mgw_in (mtin_4 (List.mem_of_getElem? (i := 199) (by decide +kernel))) (by decide +kernel)
set_option maxRecDepth 20000 in
theorem wd_1061 : (Cond.methodLink "ClauseIndexLaw" 166 ⟨"ClauseIndexModel", "pairs", "(II)I"⟩ : Cond) ∈ mgw := mgw_in (mtin_7 (List.mem_of_getElem? (i := 175) (by decide +kernel))) (by decide +kernel)
set_option maxRecDepth 20000 in
theorem wd_1062 : (Cond.instanceMethod ⟨"ClauseIndexModel", "pairs", "(II)I"⟩ : Cond) ∈ mgw := mgw_in (mtin_7 (List.mem_of_getElem? (i := 176) (by decide +kernel))) (by decide +kernel)
set_option maxRecDepth 20000 in
theorem wd_1063 : (Cond.selects "ClauseIndexModel" ⟨"ClauseIndexModel", "pairs", "(II)I"⟩ ⟨"ClauseIndexModel", "pairs", "(II)I"⟩ : Cond) ∈ mgw := mgw_in (mtin_7 (List.mem_of_getElem? (i := 177) (by decide +kernel))) (by decide +kernel)
set_option maxRecDepth 20000 in
theorem wd_1064 : (Cond.methodLink "ClauseIndexLaw" 167 ⟨"ClauseIndex", "rate", "(I)I"⟩ : Cond) ∈ mgw := mgw_in (mtin_4 (List.mem_of_getElem? (i := 228) (by decide +kernel))) (by decide +kernel)
set_option maxRecDepth 20000 in
theorem wd_1065 : (Cond.instanceMethod ⟨"ClauseIndex", "rate", "(I)I"⟩ : Cond) ∈ mgw := mgw_in (mtin_4 (List.mem_of_getElem? (i := 229) (by decide +kernel))) (by decide +kernel)
set_option maxRecDepth 20000 in
theorem wd_1066 : (Cond.selects "ClauseIndex" ⟨"ClauseIndex", "rate", "(I)I"⟩ ⟨"ClauseIndex", "rate", "(I)I"⟩ : Cond) ∈ mgw := mgw_in (mtin_4 (List.mem_of_getElem? (i := 230) (by decide +kernel))) (by decide +kernel)
set_option maxRecDepth 20000 in
theorem wd_1067 : (Cond.methodLink "ClauseIndexLaw" 170 ⟨"ClauseIndexModel", "rate", "(I)I"⟩ : Cond) ∈ mgw := mgw_in (mtin_7 (List.mem_of_getElem? (i := 187) (by decide +kernel))) (by decide +kernel)
set_option maxRecDepth 20000 in
theorem wd_1068 : (Cond.instanceMethod ⟨"ClauseIndexModel", "rate", "(I)I"⟩ : Cond) ∈ mgw := mgw_in (mtin_7 (List.mem_of_getElem? (i := 188) (by decide +kernel))) (by decide +kernel)
set_option maxRecDepth 20000 in
theorem wd_1069 : (Cond.selects "ClauseIndexModel" ⟨"ClauseIndexModel", "rate", "(I)I"⟩ ⟨"ClauseIndexModel", "rate", "(I)I"⟩ : Cond) ∈ mgw := mgw_in (mtin_7 (List.mem_of_getElem? (i := 189) (by decide +kernel))) (by decide +kernel)
set_option maxRecDepth 20000 in
theorem wd_1070 : (Cond.methodLink "ClauseIndexLaw" 171 ⟨"ClauseIndex", "best", "(II)I"⟩ : Cond) ∈ mgw := mgw_in (mtin_4 (List.mem_of_getElem? (i := 237) (by decide +kernel))) (by decide +kernel)
set_option maxRecDepth 20000 in
theorem wd_1071 : (Cond.instanceMethod ⟨"ClauseIndex", "best", "(II)I"⟩ : Cond) ∈ mgw := mgw_in (mtin_4 (List.mem_of_getElem? (i := 238) (by decide +kernel))) (by decide +kernel)
set_option maxRecDepth 20000 in
theorem wd_1072 : (Cond.selects "ClauseIndex" ⟨"ClauseIndex", "best", "(II)I"⟩ ⟨"ClauseIndex", "best", "(II)I"⟩ : Cond) ∈ mgw := mgw_in (mtin_4 (List.mem_of_getElem? (i := 239) (by decide +kernel))) (by decide +kernel)
set_option maxRecDepth 20000 in
theorem wd_1073 : (Cond.methodLink "ClauseIndexLaw" 174 ⟨"ClauseIndexModel", "best", "(II)I"⟩ : Cond) ∈ mgw := mgw_in (mtin_7 (List.mem_of_getElem? (i := 196) (by decide +kernel))) (by decide +kernel)
set_option maxRecDepth 20000 in
theorem wd_1074 : (Cond.instanceMethod ⟨"ClauseIndexModel", "best", "(II)I"⟩ : Cond) ∈ mgw := mgw_in (mtin_7 (List.mem_of_getElem? (i := 197) (by decide +kernel))) (by decide +kernel)
set_option maxRecDepth 20000 in
theorem wd_1075 : (Cond.selects "ClauseIndexModel" ⟨"ClauseIndexModel", "best", "(II)I"⟩ ⟨"ClauseIndexModel", "best", "(II)I"⟩ : Cond) ∈ mgw := mgw_in (mtin_7 (List.mem_of_getElem? (i := 198) (by decide +kernel))) (by decide +kernel)
set_option maxRecDepth 20000 in
theorem wd_1076 : (Cond.methodLink "ClauseIndexLaw" 175 ⟨"ClauseIndex", "redundant", "(I)I"⟩ : Cond) ∈ mgw := mgw_in (mtin_5 (List.mem_of_getElem? (i := 17) (by decide +kernel))) (by decide +kernel)
set_option maxRecDepth 20000 in
theorem wd_1077 : (Cond.instanceMethod ⟨"ClauseIndex", "redundant", "(I)I"⟩ : Cond) ∈ mgw := mgw_in (mtin_5 (List.mem_of_getElem? (i := 18) (by decide +kernel))) (by decide +kernel)
set_option maxRecDepth 20000 in
theorem wd_1078 : (Cond.selects "ClauseIndex" ⟨"ClauseIndex", "redundant", "(I)I"⟩ ⟨"ClauseIndex", "redundant", "(I)I"⟩ : Cond) ∈ mgw := mgw_in (mtin_5 (List.mem_of_getElem? (i := 19) (by decide +kernel))) (by decide +kernel)
set_option maxRecDepth 20000 in
theorem wd_1079 : (Cond.methodLink "ClauseIndexLaw" 178 ⟨"ClauseIndexModel", "redundant", "(I)I"⟩ : Cond) ∈ mgw := mgw_in (mtin_7 (List.mem_of_getElem? (i := 204) (by decide +kernel))) (by decide +kernel)
set_option maxRecDepth 20000 in
theorem wd_1080 : (Cond.instanceMethod ⟨"ClauseIndexModel", "redundant", "(I)I"⟩ : Cond) ∈ mgw := mgw_in (mtin_7 (List.mem_of_getElem? (i := 205) (by decide +kernel))) (by decide +kernel)
set_option maxRecDepth 20000 in
theorem wd_1081 : (Cond.selects "ClauseIndexModel" ⟨"ClauseIndexModel", "redundant", "(I)I"⟩ ⟨"ClauseIndexModel", "redundant", "(I)I"⟩ : Cond) ∈ mgw := mgw_in (mtin_7 (List.mem_of_getElem? (i := 206) (by decide +kernel))) (by decide +kernel)
set_option maxRecDepth 20000 in
theorem wd_1082 : (Cond.methodLink "ClauseIndexLaw" 179 ⟨"ClauseIndex", "clean", "(I)I"⟩ : Cond) ∈ mgw := mgw_in (mtin_5 (List.mem_of_getElem? (i := 25) (by decide +kernel))) (by decide +kernel)
set_option maxRecDepth 20000 in
theorem wd_1083 : (Cond.instanceMethod ⟨"ClauseIndex", "clean", "(I)I"⟩ : Cond) ∈ mgw := mgw_in (mtin_5 (List.mem_of_getElem? (i := 26) (by decide +kernel))) (by decide +kernel)
set_option maxRecDepth 20000 in
theorem wd_1084 : (Cond.selects "ClauseIndex" ⟨"ClauseIndex", "clean", "(I)I"⟩ ⟨"ClauseIndex", "clean", "(I)I"⟩ : Cond) ∈ mgw := mgw_in (mtin_5 (List.mem_of_getElem? (i := 27) (by decide +kernel))) (by decide +kernel)
set_option maxRecDepth 20000 in
theorem wd_1085 : (Cond.methodLink "ClauseIndexLaw" 182 ⟨"ClauseIndexModel", "clean", "(I)I"⟩ : Cond) ∈ mgw := mgw_in (mtin_7 (List.mem_of_getElem? (i := 216) (by decide +kernel))) (by decide +kernel)
set_option maxRecDepth 20000 in
theorem wd_1086 : (Cond.instanceMethod ⟨"ClauseIndexModel", "clean", "(I)I"⟩ : Cond) ∈ mgw := mgw_in (mtin_7 (List.mem_of_getElem? (i := 217) (by decide +kernel))) (by decide +kernel)
set_option maxRecDepth 20000 in
theorem wd_1087 : (Cond.selects "ClauseIndexModel" ⟨"ClauseIndexModel", "clean", "(I)I"⟩ ⟨"ClauseIndexModel", "clean", "(I)I"⟩ : Cond) ∈ mgw := mgw_in (mtin_7 (List.mem_of_getElem? (i := 218) (by decide +kernel))) (by decide +kernel)
set_option maxRecDepth 20000 in
theorem wd_1088 : (Cond.methodLink "ClauseIndexLaw" 183 ⟨"ClauseIndex", "tops", "(I)I"⟩ : Cond) ∈ mgw := mgw_in (mtin_5 (List.mem_of_getElem? (i := 33) (by decide +kernel))) (by decide +kernel)
set_option maxRecDepth 20000 in
theorem wd_1089 : (Cond.instanceMethod ⟨"ClauseIndex", "tops", "(I)I"⟩ : Cond) ∈ mgw := mgw_in (mtin_5 (List.mem_of_getElem? (i := 34) (by decide +kernel))) (by decide +kernel)
set_option maxRecDepth 20000 in
theorem wd_1090 : (Cond.selects "ClauseIndex" ⟨"ClauseIndex", "tops", "(I)I"⟩ ⟨"ClauseIndex", "tops", "(I)I"⟩ : Cond) ∈ mgw := mgw_in (mtin_5 (List.mem_of_getElem? (i := 35) (by decide +kernel))) (by decide +kernel)
set_option maxRecDepth 20000 in
theorem wd_1091 : (Cond.methodLink "ClauseIndexLaw" 186 ⟨"ClauseIndexModel", "tops", "(I)I"⟩ : Cond) ∈ mgw := mgw_in (mtin_7 (List.mem_of_getElem? (i := 220) (by decide +kernel))) (by decide +kernel)
set_option maxRecDepth 20000 in
theorem wd_1092 : (Cond.instanceMethod ⟨"ClauseIndexModel", "tops", "(I)I"⟩ : Cond) ∈ mgw := mgw_in (mtin_7 (List.mem_of_getElem? (i := 221) (by decide +kernel))) (by decide +kernel)
set_option maxRecDepth 20000 in
theorem wd_1093 : (Cond.selects "ClauseIndexModel" ⟨"ClauseIndexModel", "tops", "(I)I"⟩ ⟨"ClauseIndexModel", "tops", "(I)I"⟩ : Cond) ∈ mgw := mgw_in (mtin_7 (List.mem_of_getElem? (i := 222) (by decide +kernel))) (by decide +kernel)
set_option maxRecDepth 20000 in
theorem wd_1094 : (Cond.methodLink "ClauseIndexLaw" 187 ⟨"ClauseIndex", "chain", "(II)I"⟩ : Cond) ∈ mgw := mgw_in (mtin_5 (List.mem_of_getElem? (i := 41) (by decide +kernel))) (by decide +kernel)
set_option maxRecDepth 20000 in
theorem wd_1095 : (Cond.instanceMethod ⟨"ClauseIndex", "chain", "(II)I"⟩ : Cond) ∈ mgw := mgw_in (mtin_5 (List.mem_of_getElem? (i := 42) (by decide +kernel))) (by decide +kernel)
set_option maxRecDepth 20000 in
theorem wd_1096 : (Cond.selects "ClauseIndex" ⟨"ClauseIndex", "chain", "(II)I"⟩ ⟨"ClauseIndex", "chain", "(II)I"⟩ : Cond) ∈ mgw := mgw_in (mtin_5 (List.mem_of_getElem? (i := 43) (by decide +kernel))) (by decide +kernel)
set_option maxRecDepth 20000 in
theorem wd_1097 : (Cond.methodLink "ClauseIndexLaw" 190 ⟨"ClauseIndexModel", "chain", "(II)I"⟩ : Cond) ∈ mgw := mgw_in (mtin_7 (List.mem_of_getElem? (i := 228) (by decide +kernel))) (by decide +kernel)
set_option maxRecDepth 20000 in
theorem wd_1098 : (Cond.instanceMethod ⟨"ClauseIndexModel", "chain", "(II)I"⟩ : Cond) ∈ mgw := mgw_in (mtin_7 (List.mem_of_getElem? (i := 229) (by decide +kernel))) (by decide +kernel)
set_option maxRecDepth 20000 in
theorem wd_1099 : (Cond.selects "ClauseIndexModel" ⟨"ClauseIndexModel", "chain", "(II)I"⟩ ⟨"ClauseIndexModel", "chain", "(II)I"⟩ : Cond) ∈ mgw := mgw_in (mtin_7 (List.mem_of_getElem? (i := 230) (by decide +kernel))) (by decide +kernel)
set_option maxRecDepth 20000 in
theorem wd_1100 : (Cond.methodLink "ClauseIndexLaw" 191 ⟨"ClauseIndex", "parts", "(I)I"⟩ : Cond) ∈ mgw := mgw_in (mtin_5 (List.mem_of_getElem? (i := 61) (by decide +kernel))) (by decide +kernel)
set_option maxRecDepth 20000 in
theorem wd_1101 : (Cond.instanceMethod ⟨"ClauseIndex", "parts", "(I)I"⟩ : Cond) ∈ mgw := mgw_in (mtin_5 (List.mem_of_getElem? (i := 62) (by decide +kernel))) (by decide +kernel)
set_option maxRecDepth 20000 in
theorem wd_1102 : (Cond.selects "ClauseIndex" ⟨"ClauseIndex", "parts", "(I)I"⟩ ⟨"ClauseIndex", "parts", "(I)I"⟩ : Cond) ∈ mgw := mgw_in (mtin_5 (List.mem_of_getElem? (i := 63) (by decide +kernel))) (by decide +kernel)
set_option maxRecDepth 20000 in
theorem wd_1103 : (Cond.methodLink "ClauseIndexLaw" 194 ⟨"ClauseIndexModel", "parts", "(I)I"⟩ : Cond) ∈ mgw := mgw_in (mtin_7 (List.mem_of_getElem? (i := 236) (by decide +kernel))) (by decide +kernel)
set_option maxRecDepth 20000 in
theorem wd_1104 : (Cond.instanceMethod ⟨"ClauseIndexModel", "parts", "(I)I"⟩ : Cond) ∈ mgw := mgw_in (mtin_7 (List.mem_of_getElem? (i := 237) (by decide +kernel))) (by decide +kernel)
set_option maxRecDepth 20000 in
theorem wd_1105 : (Cond.selects "ClauseIndexModel" ⟨"ClauseIndexModel", "parts", "(I)I"⟩ ⟨"ClauseIndexModel", "parts", "(I)I"⟩ : Cond) ∈ mgw := mgw_in (mtin_7 (List.mem_of_getElem? (i := 238) (by decide +kernel))) (by decide +kernel)
set_option maxRecDepth 20000 in
theorem wd_1106 : (Cond.methodLink "ClauseIndexLaw" 195 ⟨"ClauseIndex", "doubles", "()I"⟩ : Cond) ∈ mgw := mgw_in (mtin_5 (List.mem_of_getElem? (i := 69) (by decide +kernel))) (by decide +kernel)
set_option maxRecDepth 20000 in
theorem wd_1107 : (Cond.instanceMethod ⟨"ClauseIndex", "doubles", "()I"⟩ : Cond) ∈ mgw := mgw_in (mtin_5 (List.mem_of_getElem? (i := 70) (by decide +kernel))) (by decide +kernel)
set_option maxRecDepth 20000 in
theorem wd_1108 : (Cond.selects "ClauseIndex" ⟨"ClauseIndex", "doubles", "()I"⟩ ⟨"ClauseIndex", "doubles", "()I"⟩ : Cond) ∈ mgw := mgw_in (mtin_5 (List.mem_of_getElem? (i := 71) (by decide +kernel))) (by decide +kernel)
set_option maxRecDepth 20000 in
theorem wd_1109 : (Cond.methodLink "ClauseIndexLaw" 198 ⟨"ClauseIndexModel", "doubles", "()I"⟩ : Cond) ∈ mgw := mgw_in (mtin_8 (List.mem_of_getElem? (i := 0) (by decide +kernel))) (by decide +kernel)
set_option maxRecDepth 20000 in
theorem wd_1110 : (Cond.instanceMethod ⟨"ClauseIndexModel", "doubles", "()I"⟩ : Cond) ∈ mgw := mgw_in (mtin_8 (List.mem_of_getElem? (i := 1) (by decide +kernel))) (by decide +kernel)
set_option maxRecDepth 20000 in
theorem wd_1111 : (Cond.selects "ClauseIndexModel" ⟨"ClauseIndexModel", "doubles", "()I"⟩ ⟨"ClauseIndexModel", "doubles", "()I"⟩ : Cond) ∈ mgw := mgw_in (mtin_8 (List.mem_of_getElem? (i := 2) (by decide +kernel))) (by decide +kernel)
set_option maxRecDepth 20000 in
theorem wd_1112 : (Cond.methodLink "ClauseIndexLaw" 199 ⟨"ClauseIndex", "undo", "(I)I"⟩ : Cond) ∈ mgw := mgw_in (mtin_5 (List.mem_of_getElem? (i := 77) (by decide +kernel))) (by decide +kernel)
set_option maxRecDepth 20000 in
theorem wd_1113 : (Cond.instanceMethod ⟨"ClauseIndex", "undo", "(I)I"⟩ : Cond) ∈ mgw := mgw_in (mtin_5 (List.mem_of_getElem? (i := 78) (by decide +kernel))) (by decide +kernel)
set_option maxRecDepth 20000 in
theorem wd_1114 : (Cond.selects "ClauseIndex" ⟨"ClauseIndex", "undo", "(I)I"⟩ ⟨"ClauseIndex", "undo", "(I)I"⟩ : Cond) ∈ mgw := mgw_in (mtin_5 (List.mem_of_getElem? (i := 79) (by decide +kernel))) (by decide +kernel)
set_option maxRecDepth 20000 in
theorem wd_1115 : (Cond.methodLink "ClauseIndexLaw" 202 ⟨"ClauseIndexModel", "undo", "(I)I"⟩ : Cond) ∈ mgw := mgw_in (mtin_6 (List.mem_of_getElem? (i := 160) (by decide +kernel))) (by decide +kernel)
set_option maxRecDepth 20000 in
theorem wd_1116 : (Cond.instanceMethod ⟨"ClauseIndexModel", "undo", "(I)I"⟩ : Cond) ∈ mgw := mgw_in (mtin_6 (List.mem_of_getElem? (i := 161) (by decide +kernel))) (by decide +kernel)
set_option maxRecDepth 20000 in
theorem wd_1117 : (Cond.selects "ClauseIndexModel" ⟨"ClauseIndexModel", "undo", "(I)I"⟩ ⟨"ClauseIndexModel", "undo", "(I)I"⟩ : Cond) ∈ mgw := mgw_in (mtin_6 (List.mem_of_getElem? (i := 162) (by decide +kernel))) (by decide +kernel)
set_option maxRecDepth 20000 in
theorem wd_1118 : (Cond.methodLink "ClauseIndexLaw" 203 ⟨"ClauseIndex", "image", "(I)I"⟩ : Cond) ∈ mgw := mgw_in (mtin_5 (List.mem_of_getElem? (i := 89) (by decide +kernel))) (by decide +kernel)
set_option maxRecDepth 20000 in
theorem wd_1119 : (Cond.instanceMethod ⟨"ClauseIndex", "image", "(I)I"⟩ : Cond) ∈ mgw := mgw_in (mtin_5 (List.mem_of_getElem? (i := 90) (by decide +kernel))) (by decide +kernel)
set_option maxRecDepth 20000 in
theorem wd_1120 : (Cond.selects "ClauseIndex" ⟨"ClauseIndex", "image", "(I)I"⟩ ⟨"ClauseIndex", "image", "(I)I"⟩ : Cond) ∈ mgw := mgw_in (mtin_5 (List.mem_of_getElem? (i := 91) (by decide +kernel))) (by decide +kernel)
set_option maxRecDepth 20000 in
theorem wd_1121 : (Cond.methodLink "ClauseIndexLaw" 206 ⟨"ClauseIndexModel", "image", "(I)I"⟩ : Cond) ∈ mgw := mgw_in (mtin_6 (List.mem_of_getElem? (i := 165) (by decide +kernel))) (by decide +kernel)
set_option maxRecDepth 20000 in
theorem wd_1122 : (Cond.instanceMethod ⟨"ClauseIndexModel", "image", "(I)I"⟩ : Cond) ∈ mgw := mgw_in (mtin_6 (List.mem_of_getElem? (i := 166) (by decide +kernel))) (by decide +kernel)
set_option maxRecDepth 20000 in
theorem wd_1123 : (Cond.selects "ClauseIndexModel" ⟨"ClauseIndexModel", "image", "(I)I"⟩ ⟨"ClauseIndexModel", "image", "(I)I"⟩ : Cond) ∈ mgw := mgw_in (mtin_6 (List.mem_of_getElem? (i := 167) (by decide +kernel))) (by decide +kernel)
set_option maxRecDepth 20000 in
theorem wd_1124 : (Cond.methodLink "ClauseIndexLaw" 207 ⟨"ClauseIndex", "restore", "(I)I"⟩ : Cond) ∈ mgw := mgw_in (mtin_5 (List.mem_of_getElem? (i := 94) (by decide +kernel))) (by decide +kernel)
set_option maxRecDepth 20000 in
theorem wd_1125 : (Cond.instanceMethod ⟨"ClauseIndex", "restore", "(I)I"⟩ : Cond) ∈ mgw := mgw_in (mtin_5 (List.mem_of_getElem? (i := 95) (by decide +kernel))) (by decide +kernel)
set_option maxRecDepth 20000 in
theorem wd_1126 : (Cond.selects "ClauseIndex" ⟨"ClauseIndex", "restore", "(I)I"⟩ ⟨"ClauseIndex", "restore", "(I)I"⟩ : Cond) ∈ mgw := mgw_in (mtin_5 (List.mem_of_getElem? (i := 96) (by decide +kernel))) (by decide +kernel)
set_option maxRecDepth 20000 in
theorem wd_1127 : (Cond.methodLink "ClauseIndexLaw" 210 ⟨"ClauseIndexModel", "restore", "(I)I"⟩ : Cond) ∈ mgw := mgw_in (mtin_6 (List.mem_of_getElem? (i := 169) (by decide +kernel))) (by decide +kernel)
set_option maxRecDepth 20000 in
theorem wd_1128 : (Cond.instanceMethod ⟨"ClauseIndexModel", "restore", "(I)I"⟩ : Cond) ∈ mgw := mgw_in (mtin_6 (List.mem_of_getElem? (i := 170) (by decide +kernel))) (by decide +kernel)
set_option maxRecDepth 20000 in
theorem wd_1129 : (Cond.selects "ClauseIndexModel" ⟨"ClauseIndexModel", "restore", "(I)I"⟩ ⟨"ClauseIndexModel", "restore", "(I)I"⟩ : Cond) ∈ mgw := mgw_in (mtin_6 (List.mem_of_getElem? (i := 171) (by decide +kernel))) (by decide +kernel)
set_option maxRecDepth 20000 in
theorem wd_1130 : (Cond.methodLink "ClauseIndexLaw" 211 ⟨"ClauseIndex", "count", "(I)I"⟩ : Cond) ∈ mgw := mgw_in (mtin_5 (List.mem_of_getElem? (i := 102) (by decide +kernel))) (by decide +kernel)
set_option maxRecDepth 20000 in
theorem wd_1131 : (Cond.instanceMethod ⟨"ClauseIndex", "count", "(I)I"⟩ : Cond) ∈ mgw := mgw_in (mtin_5 (List.mem_of_getElem? (i := 103) (by decide +kernel))) (by decide +kernel)
set_option maxRecDepth 20000 in
theorem wd_1132 : (Cond.selects "ClauseIndex" ⟨"ClauseIndex", "count", "(I)I"⟩ ⟨"ClauseIndex", "count", "(I)I"⟩ : Cond) ∈ mgw := mgw_in (mtin_5 (List.mem_of_getElem? (i := 104) (by decide +kernel))) (by decide +kernel)
set_option maxRecDepth 20000 in
theorem wd_1133 : (Cond.methodLink "ClauseIndexLaw" 214 ⟨"ClauseIndexModel", "count", "(I)I"⟩ : Cond) ∈ mgw := mgw_in (mtin_8 (List.mem_of_getElem? (i := 4) (by decide +kernel))) (by decide +kernel)
set_option maxRecDepth 20000 in
theorem wd_1134 : (Cond.instanceMethod ⟨"ClauseIndexModel", "count", "(I)I"⟩ : Cond) ∈ mgw := mgw_in (mtin_8 (List.mem_of_getElem? (i := 5) (by decide +kernel))) (by decide +kernel)
set_option maxRecDepth 20000 in
theorem wd_1135 : (Cond.selects "ClauseIndexModel" ⟨"ClauseIndexModel", "count", "(I)I"⟩ ⟨"ClauseIndexModel", "count", "(I)I"⟩ : Cond) ∈ mgw := mgw_in (mtin_8 (List.mem_of_getElem? (i := 6) (by decide +kernel))) (by decide +kernel)
set_option maxRecDepth 20000 in
theorem wd_1136 : (Cond.code ⟨"ClauseIndex$Clause", "<init>", "(LClauseIndex$Draft;)V"⟩ prog_2_method_1_code 4 (Option.none : Option ClassFile.FieldType) : Cond) ∈ mgw := mgw_in (mtin_1 (List.mem_of_getElem? (i := 224) rfl)) (by decide +kernel)
set_option maxRecDepth 20000 in
theorem wd_1137 : (Cond.code ⟨"ClauseIndex$Clause", "startsOf", "([I)[I"⟩ prog_2_method_2_code 5 (Option.some (ClassFile.FieldType.array ClassFile.FieldType.int)) : Cond) ∈ mgw := mgw_in (mtin_2 (List.mem_of_getElem? (i := 12) rfl)) (by decide +kernel)
set_option maxRecDepth 20000 in
theorem wd_1138 : (Cond.code ⟨"ClauseIndex$Clause", "measureAll", "([I[I[I)V"⟩ prog_2_method_3_code 6 (Option.none : Option ClassFile.FieldType) : Cond) ∈ mgw := mgw_in (mtin_2 (List.mem_of_getElem? (i := 15) rfl)) (by decide +kernel)
set_option maxRecDepth 20000 in
theorem wd_1139 : (Cond.code ⟨"ClauseIndex$Clause", "raise", "([IIII)V"⟩ prog_2_method_4_code 4 (Option.none : Option ClassFile.FieldType) : Cond) ∈ mgw := mgw_in (mtin_2 (List.mem_of_getElem? (i := 18) rfl)) (by decide +kernel)
set_option maxRecDepth 20000 in
theorem wd_1140 : (Cond.code ⟨"ClauseIndex$Clause", "size", "()I"⟩ prog_2_method_5_code 1 (Option.some ClassFile.FieldType.int) : Cond) ∈ mgw := mgw_in (mtin_2 (List.mem_of_getElem? (i := 214) rfl)) (by decide +kernel)
set_option maxRecDepth 20000 in
theorem wd_1141 : (Cond.code ⟨"ClauseIndex$Clause", "symbols", "()I"⟩ prog_2_method_6_code 1 (Option.some ClassFile.FieldType.int) : Cond) ∈ mgw := mgw_in (mtin_2 (List.mem_of_getElem? (i := 235) rfl)) (by decide +kernel)
set_option maxRecDepth 20000 in
theorem wd_1142 : (Cond.code ⟨"ClauseIndex$Clause", "has", "(I)Z"⟩ prog_2_method_7_code 2 (Option.some ClassFile.FieldType.boolean) : Cond) ∈ mgw := mgw_in (mtin_3 (List.mem_of_getElem? (i := 66) rfl)) (by decide +kernel)
set_option maxRecDepth 20000 in
theorem wd_1143 : (Cond.code ⟨"ClauseIndex$Clause", "start", "(I)I"⟩ prog_2_method_8_code 2 (Option.some ClassFile.FieldType.int) : Cond) ∈ mgw := mgw_in (mtin_3 (List.mem_of_getElem? (i := 71) rfl)) (by decide +kernel)
set_option maxRecDepth 20000 in
theorem wd_1144 : (Cond.code ⟨"ClauseIndex$Clause", "codeAt", "(I)I"⟩ prog_2_method_9_code 2 (Option.some ClassFile.FieldType.int) : Cond) ∈ mgw := mgw_in (mtin_2 (List.mem_of_getElem? (i := 239) rfl)) (by decide +kernel)
set_option maxRecDepth 20000 in
theorem wd_1145 : (Cond.code ⟨"ClauseIndex$Clause", "depthAt", "(I)I"⟩ prog_2_method_10_code 2 (Option.some ClassFile.FieldType.int) : Cond) ∈ mgw := mgw_in (mtin_3 (List.mem_of_getElem? (i := 3) rfl)) (by decide +kernel)
set_option maxRecDepth 20000 in
theorem wd_1146 : (Cond.code ⟨"ClauseIndex$Clause", "endOfTerm", "(I)I"⟩ prog_2_method_11_code 2 (Option.some ClassFile.FieldType.int) : Cond) ∈ mgw := mgw_in (mtin_3 (List.mem_of_getElem? (i := 132) rfl)) (by decide +kernel)
set_option maxRecDepth 20000 in
theorem wd_1147 : (Cond.code ⟨"ClauseIndex$Clause", "variableBits", "()I"⟩ prog_2_method_12_code 3 (Option.some ClassFile.FieldType.int) : Cond) ∈ mgw := mgw_in (mtin_3 (List.mem_of_getElem? (i := 85) rfl)) (by decide +kernel)
set_option maxRecDepth 20000 in
theorem wd_1148 : (Cond.code ⟨"ClauseIndex$Clause", "measure", "(II)I"⟩ prog_2_method_13_code 3 (Option.some ClassFile.FieldType.int) : Cond) ∈ mgw := mgw_in (mtin_3 (List.mem_of_getElem? (i := 234) rfl)) (by decide +kernel)
set_option maxRecDepth 20000 in
theorem wd_1149 : (Cond.code ⟨"ClauseIndex$Clause", "sameRun", "(III)Z"⟩ prog_2_method_14_code 5 (Option.some ClassFile.FieldType.boolean) : Cond) ∈ mgw := mgw_in (mtin_3 (List.mem_of_getElem? (i := 100) rfl)) (by decide +kernel)
set_option maxRecDepth 20000 in
theorem wd_1150 : (Cond.code ⟨"ClauseIndex$Clause", "opposite", "(II)Z"⟩ prog_2_method_15_code 4 (Option.some ClassFile.FieldType.boolean) : Cond) ∈ mgw := mgw_in (mtin_3 (List.mem_of_getElem? (i := 94) rfl)) (by decide +kernel)
set_option maxRecDepth 20000 in
theorem wd_1151 : (Cond.code ⟨"ClauseIndex$Draft", "<init>", "()V"⟩ prog_3_method_1_code 1 (Option.none : Option ClassFile.FieldType) : Cond) ∈ mgw := mgw_in (mtin_1 (List.mem_of_getElem? (i := 32) rfl)) (by decide +kernel)
set_option maxRecDepth 20000 in
theorem wd_1152 : (Cond.code ⟨"ClauseIndex$Draft", "size", "()I"⟩ prog_3_method_2_code 1 (Option.some ClassFile.FieldType.int) : Cond) ∈ mgw := mgw_in (mtin_1 (List.mem_of_getElem? (i := 229) rfl)) (by decide +kernel)
set_option maxRecDepth 20000 in
theorem wd_1153 : (Cond.code ⟨"ClauseIndex$Draft", "empty", "()V"⟩ prog_3_method_3_code 1 (Option.none : Option ClassFile.FieldType) : Cond) ∈ mgw := mgw_in (mtin_2 (List.mem_of_getElem? (i := 112) rfl)) (by decide +kernel)
set_option maxRecDepth 20000 in
theorem wd_1154 : (Cond.code ⟨"ClauseIndex$Draft", "codeAt", "(I)I"⟩ prog_3_method_4_code 2 (Option.some ClassFile.FieldType.int) : Cond) ∈ mgw := mgw_in (mtin_1 (List.mem_of_getElem? (i := 236) rfl)) (by decide +kernel)
set_option maxRecDepth 20000 in
theorem wd_1155 : (Cond.code ⟨"ClauseIndex$Draft", "depthAt", "(I)I"⟩ prog_3_method_5_code 2 (Option.some ClassFile.FieldType.int) : Cond) ∈ mgw := mgw_in (mtin_2 (List.mem_of_getElem? (i := 0) rfl)) (by decide +kernel)
set_option maxRecDepth 20000 in
theorem wd_1156 : (Cond.code ⟨"ClauseIndex$Draft", "isFull", "()Z"⟩ prog_3_method_6_code 1 (Option.some ClassFile.FieldType.boolean) : Cond) ∈ mgw := mgw_in (mtin_2 (List.mem_of_getElem? (i := 134) rfl)) (by decide +kernel)
set_option maxRecDepth 20000 in
theorem wd_1157 : (Cond.code ⟨"ClauseIndex$Draft", "push", "(II)Z"⟩ prog_3_method_7_code 3 (Option.some ClassFile.FieldType.boolean) : Cond) ∈ mgw := mgw_in (mtin_2 (List.mem_of_getElem? (i := 138) rfl)) (by decide +kernel)
set_option maxRecDepth 20000 in
theorem wd_1158 : (Cond.code ⟨"ClauseIndex$Draft", "load", "(LClauseIndex$Clause;)V"⟩ prog_3_method_8_code 3 (Option.none : Option ClassFile.FieldType) : Cond) ∈ mgw := mgw_in (mtin_2 (List.mem_of_getElem? (i := 230) rfl)) (by decide +kernel)
set_option maxRecDepth 20000 in
theorem wd_1159 : (Cond.code ⟨"ClauseIndex$Draft", "loadWithout", "(LClauseIndex$Draft;II)V"⟩ prog_3_method_9_code 5 (Option.none : Option ClassFile.FieldType) : Cond) ∈ mgw := mgw_in (mtin_3 (List.mem_of_getElem? (i := 215) rfl)) (by decide +kernel)
set_option maxRecDepth 20000 in
theorem wd_1160 : (Cond.code ⟨"ClauseIndex$Draft", "loadPut", "(LClauseIndex$Draft;ILClauseIndex$Draft;II)Z"⟩ prog_3_method_10_code 8 (Option.some ClassFile.FieldType.boolean) : Cond) ∈ mgw := mgw_in (mtin_3 (List.mem_of_getElem? (i := 13) rfl)) (by decide +kernel)
set_option maxRecDepth 20000 in
theorem wd_1161 : (Cond.code ⟨"ClauseIndex$Draft", "pushTerm", "(LClauseIndex$Draft;III)Z"⟩ prog_3_method_11_code 8 (Option.some ClassFile.FieldType.boolean) : Cond) ∈ mgw := mgw_in (mtin_3 (List.mem_of_getElem? (i := 19) rfl)) (by decide +kernel)
set_option maxRecDepth 20000 in
theorem wd_1162 : (Cond.code ⟨"ClauseIndex$Draft", "times", "(III)I"⟩ prog_3_method_12_code 6 (Option.some ClassFile.FieldType.int) : Cond) ∈ mgw := mgw_in (mtin_3 (List.mem_of_getElem? (i := 9) rfl)) (by decide +kernel)
set_option maxRecDepth 20000 in
theorem wd_1163 : (Cond.code ⟨"ClauseIndex$Draft", "endOfTerm", "(I)I"⟩ prog_3_method_13_code 4 (Option.some ClassFile.FieldType.int) : Cond) ∈ mgw := mgw_in (mtin_2 (List.mem_of_getElem? (i := 4) rfl)) (by decide +kernel)
set_option maxRecDepth 20000 in
theorem wd_1164 : (Cond.code ⟨"ClauseIndex$Draft", "startOf", "(I)I"⟩ prog_3_method_14_code 4 (Option.some ClassFile.FieldType.int) : Cond) ∈ mgw := mgw_in (mtin_3 (List.mem_of_getElem? (i := 201) rfl)) (by decide +kernel)
set_option maxRecDepth 20000 in
theorem wd_1165 : (Cond.code ⟨"ClauseIndex$History", "<init>", "()V"⟩ prog_4_method_1_code 2 (Option.none : Option ClassFile.FieldType) : Cond) ∈ mgw := mgw_in (mtin_1 (List.mem_of_getElem? (i := 160) rfl)) (by decide +kernel)
set_option maxRecDepth 20000 in
theorem wd_1166 : (Cond.code ⟨"ClauseIndex$History", "size", "()I"⟩ prog_4_method_2_code 1 (Option.some ClassFile.FieldType.int) : Cond) ∈ mgw := mgw_in (mtin_5 (List.mem_of_getElem? (i := 84) rfl)) (by decide +kernel)
set_option maxRecDepth 20000 in
theorem wd_1167 : (Cond.code ⟨"ClauseIndex$History", "note", "(LClauseIndex$State;)V"⟩ prog_4_method_3_code 2 (Option.none : Option ClassFile.FieldType) : Cond) ∈ mgw := mgw_in (mtin_2 (List.mem_of_getElem? (i := 170) rfl)) (by decide +kernel)
set_option maxRecDepth 20000 in
theorem wd_1168 : (Cond.code ⟨"ClauseIndex$History", "goBack", "(ILClauseIndex$State;)V"⟩ prog_4_method_4_code 3 (Option.none : Option ClassFile.FieldType) : Cond) ∈ mgw := mgw_in (mtin_5 (List.mem_of_getElem? (i := 88) rfl)) (by decide +kernel)
set_option maxRecDepth 20000 in
theorem wd_1169 : (Cond.code ⟨"ClauseIndex$History", "forget", "()V"⟩ prog_4_method_5_code 1 (Option.none : Option ClassFile.FieldType) : Cond) ∈ mgw := mgw_in (mtin_5 (List.mem_of_getElem? (i := 101) rfl)) (by decide +kernel)
set_option maxRecDepth 20000 in
theorem wd_1170 : (Cond.code ⟨"ClauseIndex$Matcher", "<init>", "()V"⟩ prog_5_method_1_code 1 (Option.none : Option ClassFile.FieldType) : Cond) ∈ mgw := mgw_in (mtin_1 (List.mem_of_getElem? (i := 71) rfl)) (by decide +kernel)
set_option maxRecDepth 20000 in
theorem wd_1171 : (Cond.code ⟨"ClauseIndex$Matcher", "findsFirst", "(LClauseIndex$Clause;LClauseIndex$Clause;I)Z"⟩ prog_5_method_2_code 4 (Option.some ClassFile.FieldType.boolean) : Cond) ∈ mgw := mgw_in (mtin_3 (List.mem_of_getElem? (i := 152) rfl)) (by decide +kernel)
set_option maxRecDepth 20000 in
theorem wd_1172 : (Cond.code ⟨"ClauseIndex$Matcher", "countAll", "(LClauseIndex$Clause;LClauseIndex$Clause;I)I"⟩ prog_5_method_3_code 4 (Option.some ClassFile.FieldType.int) : Cond) ∈ mgw := mgw_in (mtin_3 (List.mem_of_getElem? (i := 163) rfl)) (by decide +kernel)
set_option maxRecDepth 20000 in
theorem wd_1173 : (Cond.code ⟨"ClauseIndex$Matcher", "findsForOne", "(LClauseIndex$Clause;ILClauseIndex$Clause;)Z"⟩ prog_5_method_4_code 4 (Option.some ClassFile.FieldType.boolean) : Cond) ∈ mgw := mgw_in (mtin_3 (List.mem_of_getElem? (i := 189) rfl)) (by decide +kernel)
set_option maxRecDepth 20000 in
theorem wd_1174 : (Cond.code ⟨"ClauseIndex$Matcher", "findsAmong", "(LClauseIndex$Clause;LClauseIndex$Clause;I)Z"⟩ prog_5_method_5_code 4 (Option.some ClassFile.FieldType.boolean) : Cond) ∈ mgw := mgw_in (mtin_3 (List.mem_of_getElem? (i := 112) rfl)) (by decide +kernel)
set_option maxRecDepth 20000 in
theorem wd_1175 : (Cond.code ⟨"ClauseIndex$Matcher", "findsRenaming", "(LClauseIndex$Clause;LClauseIndex$Clause;)Z"⟩ prog_5_method_6_code 3 (Option.some ClassFile.FieldType.boolean) : Cond) ∈ mgw := mgw_in (mtin_3 (List.mem_of_getElem? (i := 223) rfl)) (by decide +kernel)
set_option maxRecDepth 20000 in
theorem wd_1176 : (Cond.code ⟨"ClauseIndex$Matcher", "placeOf", "(I)I"⟩ prog_5_method_7_code 2 (Option.some ClassFile.FieldType.int) : Cond) ∈ mgw := mgw_in (mtin_3 (List.mem_of_getElem? (i := 172) rfl)) (by decide +kernel)
set_option maxRecDepth 20000 in
theorem wd_1177 : (Cond.code ⟨"ClauseIndex$Matcher", "termOf", "(I)I"⟩ prog_5_method_8_code 2 (Option.some ClassFile.FieldType.int) : Cond) ∈ mgw := mgw_in (mtin_3 (List.mem_of_getElem? (i := 180) rfl)) (by decide +kernel)
set_option maxRecDepth 20000 in
theorem wd_1178 : (Cond.code ⟨"ClauseIndex$Matcher", "isPut", "(I)Z"⟩ prog_5_method_9_code 2 (Option.some ClassFile.FieldType.boolean) : Cond) ∈ mgw := mgw_in (mtin_3 (List.mem_of_getElem? (i := 140) rfl)) (by decide +kernel)
set_option maxRecDepth 20000 in
theorem wd_1179 : (Cond.code ⟨"ClauseIndex$Matcher", "allOf", "(LClauseIndex$Clause;)I"⟩ prog_5_method_10_code 1 (Option.some ClassFile.FieldType.int) : Cond) ∈ mgw := mgw_in (mtin_3 (List.mem_of_getElem? (i := 155) rfl)) (by decide +kernel)
set_option maxRecDepth 20000 in
theorem wd_1180 : (Cond.code ⟨"ClauseIndex$Matcher", "aim", "(LClauseIndex$Clause;Z)V"⟩ prog_5_method_11_code 3 (Option.none : Option ClassFile.FieldType) : Cond) ∈ mgw := mgw_in (mtin_3 (List.mem_of_getElem? (i := 116) rfl)) (by decide +kernel)
set_option maxRecDepth 20000 in
theorem wd_1181 : (Cond.code ⟨"ClauseIndex$Matcher", "settle", "(LClauseIndex$Clause;LClauseIndex$Clause;II)V"⟩ prog_5_method_12_code 8 (Option.none : Option ClassFile.FieldType) : Cond) ∈ mgw := mgw_in (mtin_3 (List.mem_of_getElem? (i := 121) rfl)) (by decide +kernel)
set_option maxRecDepth 20000 in
theorem wd_1182 : (Cond.code ⟨"ClauseIndex$Matcher", "fits", "(LClauseIndex$Clause;LClauseIndex$Clause;II)Z"⟩ prog_5_method_13_code 10 (Option.some ClassFile.FieldType.boolean) : Cond) ∈ mgw := mgw_in (mtin_3 (List.mem_of_getElem? (i := 125) rfl)) (by decide +kernel)
set_option maxRecDepth 20000 in
theorem wd_1183 : (Cond.code ⟨"ClauseIndex$Matcher", "binds", "(LClauseIndex$Clause;III)Z"⟩ prog_5_method_14_code 6 (Option.some ClassFile.FieldType.boolean) : Cond) ∈ mgw := mgw_in (mtin_3 (List.mem_of_getElem? (i := 136) rfl)) (by decide +kernel)
set_option maxRecDepth 20000 in
theorem wd_1184 : (Cond.code ⟨"ClauseIndex$Parting", "<init>", "()V"⟩ prog_6_method_1_code 1 (Option.none : Option ClassFile.FieldType) : Cond) ∈ mgw := mgw_in (mtin_1 (List.mem_of_getElem? (i := 130) rfl)) (by decide +kernel)
set_option maxRecDepth 20000 in
theorem wd_1185 : (Cond.code ⟨"ClauseIndex$Parting", "unlike", "(LClauseIndex$State;II)I"⟩ prog_6_method_2_code 8 (Option.some ClassFile.FieldType.int) : Cond) ∈ mgw := mgw_in (mtin_4 (List.mem_of_getElem? (i := 6) rfl)) (by decide +kernel)
set_option maxRecDepth 20000 in
theorem wd_1186 : (Cond.code ⟨"ClauseIndex$Parting", "strongest", "(LClauseIndex$State;I[II)V"⟩ prog_6_method_3_code 8 (Option.none : Option ClassFile.FieldType) : Cond) ∈ mgw := mgw_in (mtin_4 (List.mem_of_getElem? (i := 20) rfl)) (by decide +kernel)
set_option maxRecDepth 20000 in
theorem wd_1187 : (Cond.code ⟨"ClauseIndex$Parting", "leftByOrder", "(LClauseIndex$State;I)I"⟩ prog_6_method_4_code 5 (Option.some ClassFile.FieldType.int) : Cond) ∈ mgw := mgw_in (mtin_4 (List.mem_of_getElem? (i := 204) rfl)) (by decide +kernel)
set_option maxRecDepth 20000 in
theorem wd_1188 : (Cond.code ⟨"ClauseIndex$Parting", "closest", "(LClauseIndex$State;I[II)I"⟩ prog_6_method_5_code 10 (Option.some ClassFile.FieldType.int) : Cond) ∈ mgw := mgw_in (mtin_4 (List.mem_of_getElem? (i := 66) rfl)) (by decide +kernel)
set_option maxRecDepth 20000 in
theorem wd_1189 : (Cond.code ⟨"ClauseIndex$Parting", "bestTwo", "(LClauseIndex$State;I)V"⟩ prog_6_method_6_code 6 (Option.none : Option ClassFile.FieldType) : Cond) ∈ mgw := mgw_in (mtin_5 (List.mem_of_getElem? (i := 4) rfl)) (by decide +kernel)
set_option maxRecDepth 20000 in
theorem wd_1190 : (Cond.code ⟨"ClauseIndex$Parting", "leftByTwo", "()I"⟩ prog_6_method_7_code 1 (Option.some ClassFile.FieldType.int) : Cond) ∈ mgw := mgw_in (mtin_5 (List.mem_of_getElem? (i := 8) rfl)) (by decide +kernel)
set_option maxRecDepth 20000 in
theorem wd_1191 : (Cond.code ⟨"ClauseIndex$Parting", "lowerOfTwo", "()I"⟩ prog_6_method_8_code 1 (Option.some ClassFile.FieldType.int) : Cond) ∈ mgw := mgw_in (mtin_5 (List.mem_of_getElem? (i := 12) rfl)) (by decide +kernel)
set_option maxRecDepth 20000 in
theorem wd_1192 : (Cond.code ⟨"ClauseIndex$Parting", "higherOfTwo", "()I"⟩ prog_6_method_9_code 1 (Option.some ClassFile.FieldType.int) : Cond) ∈ mgw := mgw_in (mtin_5 (List.mem_of_getElem? (i := 16) rfl)) (by decide +kernel)
set_option maxRecDepth 20000 in
theorem wd_1193 : (Cond.code ⟨"ClauseIndex$Parting", "isAmong", "([III)Z"⟩ prog_6_method_10_code 4 (Option.some ClassFile.FieldType.boolean) : Cond) ∈ mgw := mgw_in (mtin_4 (List.mem_of_getElem? (i := 89) rfl)) (by decide +kernel)
set_option maxRecDepth 20000 in
theorem wd_1194 : (Cond.code ⟨"ClauseIndex$Parting", "compareAll", "(LClauseIndex$State;I)V"⟩ prog_6_method_11_code 4 (Option.none : Option ClassFile.FieldType) : Cond) ∈ mgw := mgw_in (mtin_4 (List.mem_of_getElem? (i := 70) rfl)) (by decide +kernel)
set_option maxRecDepth 20000 in
theorem wd_1195 : (Cond.code ⟨"ClauseIndex$Parting", "compare", "(LClauseIndex$State;II)V"⟩ prog_6_method_12_code 9 (Option.none : Option ClassFile.FieldType) : Cond) ∈ mgw := mgw_in (mtin_4 (List.mem_of_getElem? (i := 74) rfl)) (by decide +kernel)
set_option maxRecDepth 20000 in
theorem wd_1196 : (Cond.code ⟨"ClauseIndex$Parting", "readValues", "(LClauseIndex$State;II)V"⟩ prog_6_method_13_code 6 (Option.none : Option ClassFile.FieldType) : Cond) ∈ mgw := mgw_in (mtin_4 (List.mem_of_getElem? (i := 10) rfl)) (by decide +kernel)
set_option maxRecDepth 20000 in
theorem wd_1197 : (Cond.code ⟨"ClauseIndex$Parting", "leaveAll", "(LClauseIndex$State;)V"⟩ prog_6_method_14_code 4 (Option.none : Option ClassFile.FieldType) : Cond) ∈ mgw := mgw_in (mtin_4 (List.mem_of_getElem? (i := 79) rfl)) (by decide +kernel)
set_option maxRecDepth 20000 in
theorem wd_1198 : (Cond.code ⟨"ClauseIndex$Parting", "narrow", "(I)V"⟩ prog_6_method_15_code 4 (Option.none : Option ClassFile.FieldType) : Cond) ∈ mgw := mgw_in (mtin_4 (List.mem_of_getElem? (i := 93) rfl)) (by decide +kernel)
set_option maxRecDepth 20000 in
theorem wd_1199 : (Cond.code ⟨"ClauseIndex$Parting", "leftWith", "(I)I"⟩ prog_6_method_16_code 5 (Option.some ClassFile.FieldType.int) : Cond) ∈ mgw := mgw_in (mtin_4 (List.mem_of_getElem? (i := 85) rfl)) (by decide +kernel)
set_option maxRecDepth 20000 in
theorem wd_1200 : (Cond.code ⟨"ClauseIndex$Reader", "<init>", "()V"⟩ prog_7_method_1_code 1 (Option.none : Option ClassFile.FieldType) : Cond) ∈ mgw := mgw_in (mtin_1 (List.mem_of_getElem? (i := 26) rfl)) (by decide +kernel)
set_option maxRecDepth 20000 in
theorem wd_1201 : (Cond.code ⟨"ClauseIndex$Reader", "onTape", "()I"⟩ prog_7_method_2_code 1 (Option.some ClassFile.FieldType.int) : Cond) ∈ mgw := mgw_in (mtin_2 (List.mem_of_getElem? (i := 85) rfl)) (by decide +kernel)
set_option maxRecDepth 20000 in
theorem wd_1202 : (Cond.code ⟨"ClauseIndex$Reader", "latestFault", "()I"⟩ prog_7_method_3_code 1 (Option.some ClassFile.FieldType.int) : Cond) ∈ mgw := mgw_in (mtin_2 (List.mem_of_getElem? (i := 158) rfl)) (by decide +kernel)
set_option maxRecDepth 20000 in
theorem wd_1203 : (Cond.code ⟨"ClauseIndex$Reader", "latestPlace", "()I"⟩ prog_7_method_4_code 1 (Option.some ClassFile.FieldType.int) : Cond) ∈ mgw := mgw_in (mtin_3 (List.mem_of_getElem? (i := 27) rfl)) (by decide +kernel)
set_option maxRecDepth 20000 in
theorem wd_1204 : (Cond.code ⟨"ClauseIndex$Reader", "symbolsRead", "()LClauseIndex$Draft;"⟩ prog_7_method_5_code 1 (Option.some (ClassFile.FieldType.object "ClauseIndex$Draft")) : Cond) ∈ mgw := mgw_in (mtin_2 (List.mem_of_getElem? (i := 162) rfl)) (by decide +kernel)
set_option maxRecDepth 20000 in
theorem wd_1205 : (Cond.code ⟨"ClauseIndex$Reader", "putWord", "(I)V"⟩ prog_7_method_6_code 3 (Option.none : Option ClassFile.FieldType) : Cond) ∈ mgw := mgw_in (mtin_2 (List.mem_of_getElem? (i := 89) rfl)) (by decide +kernel)
set_option maxRecDepth 20000 in
theorem wd_1206 : (Cond.code ⟨"ClauseIndex$Reader", "readClause", "(I)Z"⟩ prog_7_method_7_code 3 (Option.some ClassFile.FieldType.boolean) : Cond) ∈ mgw := mgw_in (mtin_2 (List.mem_of_getElem? (i := 101) rfl)) (by decide +kernel)
set_option maxRecDepth 20000 in
theorem wd_1207 : (Cond.code ⟨"ClauseIndex$Reader", "readPut", "(I)Z"⟩ prog_7_method_8_code 3 (Option.some ClassFile.FieldType.boolean) : Cond) ∈ mgw := mgw_in (mtin_2 (List.mem_of_getElem? (i := 222) rfl)) (by decide +kernel)
set_option maxRecDepth 20000 in
theorem wd_1208 : (Cond.code ⟨"ClauseIndex$Reader", "begin", "(I)V"⟩ prog_7_method_9_code 2 (Option.none : Option ClassFile.FieldType) : Cond) ∈ mgw := mgw_in (mtin_2 (List.mem_of_getElem? (i := 105) rfl)) (by decide +kernel)
set_option maxRecDepth 20000 in
theorem wd_1209 : (Cond.code ⟨"ClauseIndex$Reader", "fail", "(I)Z"⟩ prog_7_method_10_code 2 (Option.some ClassFile.FieldType.boolean) : Cond) ∈ mgw := mgw_in (mtin_2 (List.mem_of_getElem? (i := 126) rfl)) (by decide +kernel)
set_option maxRecDepth 20000 in
theorem wd_1210 : (Cond.code ⟨"ClauseIndex$Reader", "look", "()I"⟩ prog_7_method_11_code 1 (Option.some ClassFile.FieldType.int) : Cond) ∈ mgw := mgw_in (mtin_2 (List.mem_of_getElem? (i := 120) rfl)) (by decide +kernel)
set_option maxRecDepth 20000 in
theorem wd_1211 : (Cond.code ⟨"ClauseIndex$Reader", "expect", "(I)Z"⟩ prog_7_method_12_code 2 (Option.some ClassFile.FieldType.boolean) : Cond) ∈ mgw := mgw_in (mtin_2 (List.mem_of_getElem? (i := 146) rfl)) (by decide +kernel)
set_option maxRecDepth 20000 in
theorem wd_1212 : (Cond.code ⟨"ClauseIndex$Reader", "readLiteral", "()Z"⟩ prog_7_method_13_code 3 (Option.some ClassFile.FieldType.boolean) : Cond) ∈ mgw := mgw_in (mtin_2 (List.mem_of_getElem? (i := 116) rfl)) (by decide +kernel)
set_option maxRecDepth 20000 in
theorem wd_1213 : (Cond.code ⟨"ClauseIndex$Reader", "readTerms", "(II)Z"⟩ prog_7_method_14_code 3 (Option.some ClassFile.FieldType.boolean) : Cond) ∈ mgw := mgw_in (mtin_2 (List.mem_of_getElem? (i := 142) rfl)) (by decide +kernel)
set_option maxRecDepth 20000 in
theorem wd_1214 : (Cond.code ⟨"ClauseIndex$Reader", "readTerm", "(I)Z"⟩ prog_7_method_15_code 3 (Option.some ClassFile.FieldType.boolean) : Cond) ∈ mgw := mgw_in (mtin_2 (List.mem_of_getElem? (i := 150) rfl)) (by decide +kernel)
set_option maxRecDepth 20000 in
theorem wd_1215 : (Cond.code ⟨"ClauseIndex$Reader", "readSymbol", "(II)Z"⟩ prog_7_method_16_code 3 (Option.some ClassFile.FieldType.boolean) : Cond) ∈ mgw := mgw_in (mtin_2 (List.mem_of_getElem? (i := 130) rfl)) (by decide +kernel)
set_option maxRecDepth 20000 in
theorem wd_1216 : (Cond.code ⟨"ClauseIndex$Reader", "termCode", "(I)I"⟩ prog_7_method_17_code 1 (Option.some ClassFile.FieldType.int) : Cond) ∈ mgw := mgw_in (mtin_2 (List.mem_of_getElem? (i := 153) rfl)) (by decide +kernel)
set_option maxRecDepth 20000 in
theorem wd_1217 : (Cond.code ⟨"ClauseIndex$Relation", "<init>", "()V"⟩ prog_8_method_1_code 1 (Option.none : Option ClassFile.FieldType) : Cond) ∈ mgw := mgw_in (mtin_1 (List.mem_of_getElem? (i := 195) rfl)) (by decide +kernel)
set_option maxRecDepth 20000 in
theorem wd_1218 : (Cond.code ⟨"ClauseIndex$Relation", "isKnown", "()Z"⟩ prog_8_method_2_code 1 (Option.some ClassFile.FieldType.boolean) : Cond) ∈ mgw := mgw_in (mtin_4 (List.mem_of_getElem? (i := 214) rfl)) (by decide +kernel)
set_option maxRecDepth 20000 in
theorem wd_1219 : (Cond.code ⟨"ClauseIndex$Relation", "forget", "()V"⟩ prog_8_method_3_code 1 (Option.none : Option ClassFile.FieldType) : Cond) ∈ mgw := mgw_in (mtin_2 (List.mem_of_getElem? (i := 206) rfl)) (by decide +kernel)
set_option maxRecDepth 20000 in
theorem wd_1220 : (Cond.code ⟨"ClauseIndex$Relation", "begin", "(I)V"⟩ prog_8_method_4_code 3 (Option.none : Option ClassFile.FieldType) : Cond) ∈ mgw := mgw_in (mtin_4 (List.mem_of_getElem? (i := 218) rfl)) (by decide +kernel)
set_option maxRecDepth 20000 in
theorem wd_1221 : (Cond.code ⟨"ClauseIndex$Relation", "note", "(II)V"⟩ prog_8_method_5_code 3 (Option.none : Option ClassFile.FieldType) : Cond) ∈ mgw := mgw_in (mtin_4 (List.mem_of_getElem? (i := 222) rfl)) (by decide +kernel)
set_option maxRecDepth 20000 in
theorem wd_1222 : (Cond.code ⟨"ClauseIndex$Relation", "size", "()I"⟩ prog_8_method_6_code 3 (Option.some ClassFile.FieldType.int) : Cond) ∈ mgw := mgw_in (mtin_4 (List.mem_of_getElem? (i := 226) rfl)) (by decide +kernel)
set_option maxRecDepth 20000 in
theorem wd_1223 : (Cond.code ⟨"ClauseIndex$Relation", "spareOnes", "()I"⟩ prog_8_method_7_code 4 (Option.some ClassFile.FieldType.int) : Cond) ∈ mgw := mgw_in (mtin_5 (List.mem_of_getElem? (i := 24) rfl)) (by decide +kernel)
set_option maxRecDepth 20000 in
theorem wd_1224 : (Cond.code ⟨"ClauseIndex$Relation", "mostGeneral", "()I"⟩ prog_8_method_8_code 3 (Option.some ClassFile.FieldType.int) : Cond) ∈ mgw := mgw_in (mtin_5 (List.mem_of_getElem? (i := 40) rfl)) (by decide +kernel)
set_option maxRecDepth 20000 in
theorem wd_1225 : (Cond.code ⟨"ClauseIndex$Relation", "classes", "()I"⟩ prog_8_method_9_code 4 (Option.some ClassFile.FieldType.int) : Cond) ∈ mgw := mgw_in (mtin_5 (List.mem_of_getElem? (i := 68) rfl)) (by decide +kernel)
set_option maxRecDepth 20000 in
theorem wd_1226 : (Cond.code ⟨"ClauseIndex$Relation", "layLongestRow", "()I"⟩ prog_8_method_10_code 5 (Option.some ClassFile.FieldType.int) : Cond) ∈ mgw := mgw_in (mtin_5 (List.mem_of_getElem? (i := 48) rfl)) (by decide +kernel)
set_option maxRecDepth 20000 in
theorem wd_1227 : (Cond.code ⟨"ClauseIndex$Relation", "inRow", "(I)I"⟩ prog_8_method_11_code 2 (Option.some ClassFile.FieldType.int) : Cond) ∈ mgw := mgw_in (mtin_5 (List.mem_of_getElem? (i := 60) rfl)) (by decide +kernel)
set_option maxRecDepth 20000 in
theorem wd_1228 : (Cond.code ⟨"ClauseIndex$Relation", "measureRows", "()V"⟩ prog_8_method_12_code 6 (Option.none : Option ClassFile.FieldType) : Cond) ∈ mgw := mgw_in (mtin_5 (List.mem_of_getElem? (i := 52) rfl)) (by decide +kernel)
set_option maxRecDepth 20000 in
theorem wd_1229 : (Cond.code ⟨"ClauseIndex$Relation", "firstOfLongest", "(I)I"⟩ prog_8_method_13_code 5 (Option.some ClassFile.FieldType.int) : Cond) ∈ mgw := mgw_in (mtin_5 (List.mem_of_getElem? (i := 56) rfl)) (by decide +kernel)
set_option maxRecDepth 20000 in
theorem wd_1230 : (Cond.code ⟨"ClauseIndex$State", "<init>", "()V"⟩ prog_9_method_1_code 1 (Option.none : Option ClassFile.FieldType) : Cond) ∈ mgw := mgw_in (mtin_1 (List.mem_of_getElem? (i := 167) rfl)) (by decide +kernel)
set_option maxRecDepth 20000 in
theorem wd_1231 : (Cond.code ⟨"ClauseIndex$State", "clause", "(I)LClauseIndex$Clause;"⟩ prog_9_method_2_code 2 (Option.some (ClassFile.FieldType.object "ClauseIndex$Clause")) : Cond) ∈ mgw := mgw_in (mtin_2 (List.mem_of_getElem? (i := 178) rfl)) (by decide +kernel)
set_option maxRecDepth 20000 in
theorem wd_1232 : (Cond.code ⟨"ClauseIndex$State", "store", "(ILClauseIndex$Clause;)V"⟩ prog_9_method_3_code 3 (Option.none : Option ClassFile.FieldType) : Cond) ∈ mgw := mgw_in (mtin_2 (List.mem_of_getElem? (i := 198) rfl)) (by decide +kernel)
set_option maxRecDepth 20000 in
theorem wd_1233 : (Cond.code ⟨"ClauseIndex$State", "drop", "(I)V"⟩ prog_9_method_4_code 3 (Option.none : Option ClassFile.FieldType) : Cond) ∈ mgw := mgw_in (mtin_5 (List.mem_of_getElem? (i := 32) rfl)) (by decide +kernel)
set_option maxRecDepth 20000 in
theorem wd_1234 : (Cond.code ⟨"ClauseIndex$State", "lowestFree", "()I"⟩ prog_9_method_5_code 2 (Option.some ClassFile.FieldType.int) : Cond) ∈ mgw := mgw_in (mtin_2 (List.mem_of_getElem? (i := 97) rfl)) (by decide +kernel)
set_option maxRecDepth 20000 in
theorem wd_1235 : (Cond.code ⟨"ClauseIndex$State", "numbers", "()I"⟩ prog_9_method_6_code 3 (Option.some ClassFile.FieldType.int) : Cond) ∈ mgw := mgw_in (mtin_3 (List.mem_of_getElem? (i := 48) rfl)) (by decide +kernel)
set_option maxRecDepth 20000 in
theorem wd_1236 : (Cond.code ⟨"ClauseIndex$State", "laid", "()I"⟩ prog_9_method_7_code 1 (Option.some ClassFile.FieldType.int) : Cond) ∈ mgw := mgw_in (mtin_2 (List.mem_of_getElem? (i := 182) rfl)) (by decide +kernel)
set_option maxRecDepth 20000 in
theorem wd_1237 : (Cond.code ⟨"ClauseIndex$State", "featureAt", "(I)I"⟩ prog_9_method_8_code 2 (Option.some ClassFile.FieldType.int) : Cond) ∈ mgw := mgw_in (mtin_2 (List.mem_of_getElem? (i := 186) rfl)) (by decide +kernel)
set_option maxRecDepth 20000 in
theorem wd_1238 : (Cond.code ⟨"ClauseIndex$State", "isLaid", "(I)Z"⟩ prog_9_method_9_code 3 (Option.some ClassFile.FieldType.boolean) : Cond) ∈ mgw := mgw_in (mtin_4 (List.mem_of_getElem? (i := 102) rfl)) (by decide +kernel)
set_option maxRecDepth 20000 in
theorem wd_1239 : (Cond.code ⟨"ClauseIndex$State", "append", "(I)V"⟩ prog_9_method_10_code 2 (Option.none : Option ClassFile.FieldType) : Cond) ∈ mgw := mgw_in (mtin_2 (List.mem_of_getElem? (i := 190) rfl)) (by decide +kernel)
set_option maxRecDepth 20000 in
theorem wd_1240 : (Cond.code ⟨"ClauseIndex$State", "dropLast", "()V"⟩ prog_9_method_11_code 1 (Option.none : Option ClassFile.FieldType) : Cond) ∈ mgw := mgw_in (mtin_4 (List.mem_of_getElem? (i := 111) rfl)) (by decide +kernel)
set_option maxRecDepth 20000 in
theorem wd_1241 : (Cond.code ⟨"ClauseIndex$State", "isOrder", "([II)Z"⟩ prog_9_method_12_code 4 (Option.some ClassFile.FieldType.boolean) : Cond) ∈ mgw := mgw_in (mtin_4 (List.mem_of_getElem? (i := 29) rfl)) (by decide +kernel)
set_option maxRecDepth 20000 in
theorem wd_1242 : (Cond.code ⟨"ClauseIndex$State", "layAll", "([II)V"⟩ prog_9_method_13_code 4 (Option.none : Option ClassFile.FieldType) : Cond) ∈ mgw := mgw_in (mtin_4 (List.mem_of_getElem? (i := 33) rfl)) (by decide +kernel)
set_option maxRecDepth 20000 in
theorem wd_1243 : (Cond.code ⟨"ClauseIndex$State", "copy", "(LClauseIndex$State;)V"⟩ prog_9_method_14_code 3 (Option.none : Option ClassFile.FieldType) : Cond) ∈ mgw := mgw_in (mtin_2 (List.mem_of_getElem? (i := 174) rfl)) (by decide +kernel)
set_option maxRecDepth 20000 in
theorem wd_1244 : (Cond.code ⟨"ClauseIndex$State", "leastOf", "(II)I"⟩ prog_9_method_15_code 5 (Option.some ClassFile.FieldType.int) : Cond) ∈ mgw := mgw_in (mtin_4 (List.mem_of_getElem? (i := 47) rfl)) (by decide +kernel)
set_option maxRecDepth 20000 in
theorem wd_1245 : (Cond.code ⟨"ClauseIndex$State", "having", "(III)I"⟩ prog_9_method_16_code 6 (Option.some ClassFile.FieldType.int) : Cond) ∈ mgw := mgw_in (mtin_4 (List.mem_of_getElem? (i := 54) rfl)) (by decide +kernel)
set_option maxRecDepth 20000 in
theorem wd_1246 : (Cond.code ⟨"ClauseIndex$Tree", "<init>", "()V"⟩ prog_10_method_1_code 1 (Option.none : Option ClassFile.FieldType) : Cond) ∈ mgw := mgw_in (mtin_1 (List.mem_of_getElem? (i := 105) rfl)) (by decide +kernel)
set_option maxRecDepth 20000 in
theorem wd_1247 : (Cond.code ⟨"ClauseIndex$Tree", "grow", "(LClauseIndex$State;)V"⟩ prog_10_method_2_code 2 (Option.none : Option ClassFile.FieldType) : Cond) ∈ mgw := mgw_in (mtin_4 (List.mem_of_getElem? (i := 37) rfl)) (by decide +kernel)
set_option maxRecDepth 20000 in
theorem wd_1248 : (Cond.code ⟨"ClauseIndex$Tree", "branch", "(LClauseIndex$State;III)V"⟩ prog_10_method_3_code 11 (Option.none : Option ClassFile.FieldType) : Cond) ∈ mgw := mgw_in (mtin_4 (List.mem_of_getElem? (i := 42) rfl)) (by decide +kernel)
set_option maxRecDepth 20000 in
theorem wd_1249 : (Cond.code ⟨"ClauseIndex$Tree", "size", "()I"⟩ prog_10_method_4_code 1 (Option.some ClassFile.FieldType.int) : Cond) ∈ mgw := mgw_in (mtin_4 (List.mem_of_getElem? (i := 58) rfl)) (by decide +kernel)
set_option maxRecDepth 20000 in
theorem wd_1250 : (Cond.code ⟨"ClauseIndex$Tree", "levelOf", "(I)I"⟩ prog_10_method_5_code 2 (Option.some ClassFile.FieldType.int) : Cond) ∈ mgw := mgw_in (mtin_4 (List.mem_of_getElem? (i := 128) rfl)) (by decide +kernel)
set_option maxRecDepth 20000 in
theorem wd_1251 : (Cond.code ⟨"ClauseIndex$Tree", "valueOf", "(I)I"⟩ prog_10_method_6_code 2 (Option.some ClassFile.FieldType.int) : Cond) ∈ mgw := mgw_in (mtin_4 (List.mem_of_getElem? (i := 132) rfl)) (by decide +kernel)
set_option maxRecDepth 20000 in
theorem wd_1252 : (Cond.code ⟨"ClauseIndex$Tree", "childrenOf", "(I)I"⟩ prog_10_method_7_code 2 (Option.some ClassFile.FieldType.int) : Cond) ∈ mgw := mgw_in (mtin_4 (List.mem_of_getElem? (i := 136) rfl)) (by decide +kernel)
set_option maxRecDepth 20000 in
theorem wd_1253 : (Cond.code ⟨"ClauseIndex$Tree", "membersOf", "(I)I"⟩ prog_10_method_8_code 2 (Option.some ClassFile.FieldType.int) : Cond) ∈ mgw := mgw_in (mtin_4 (List.mem_of_getElem? (i := 140) rfl)) (by decide +kernel)
set_option maxRecDepth 20000 in
theorem wd_1254 : (Cond.code ⟨"ClauseIndex$Tree", "endOf", "(II)I"⟩ prog_10_method_9_code 4 (Option.some ClassFile.FieldType.int) : Cond) ∈ mgw := mgw_in (mtin_4 (List.mem_of_getElem? (i := 148) rfl)) (by decide +kernel)
set_option maxRecDepth 20000 in
theorem wd_1255 : (Cond.code ⟨"ClauseIndex$Tree", "walk", "(LClauseIndex$State;LClauseIndex$Clause;II)I"⟩ prog_10_method_10_code 9 (Option.some ClassFile.FieldType.int) : Cond) ∈ mgw := mgw_in (mtin_4 (List.mem_of_getElem? (i := 176) rfl)) (by decide +kernel)
set_option maxRecDepth 20000 in
theorem wd_1256 : (Cond.code ⟨"ClauseIndex$Tree", "passes", "(IILClauseIndex$Clause;II)Z"⟩ prog_10_method_11_code 8 (Option.some ClassFile.FieldType.boolean) : Cond) ∈ mgw := mgw_in (mtin_4 (List.mem_of_getElem? (i := 180) rfl)) (by decide +kernel)
set_option maxRecDepth 20000 in
theorem wd_1257 : (Cond.code ⟨"ClauseIndex$Tree", "reachedBits", "()I"⟩ prog_10_method_12_code 1 (Option.some ClassFile.FieldType.int) : Cond) ∈ mgw := mgw_in (mtin_4 (List.mem_of_getElem? (i := 192) rfl)) (by decide +kernel)
set_option maxRecDepth 20000 in
theorem wd_1258 : (Cond.code ⟨"ClauseIndex", "<init>", "()V"⟩ prog_1_method_1_code 2 (Option.none : Option ClassFile.FieldType) : Cond) ∈ mgw := mgw_in (mtin_1 (List.mem_of_getElem? (i := 18) rfl)) (by decide +kernel)
set_option maxRecDepth 20000 in
theorem wd_1259 : (Cond.code ⟨"ClauseIndex", "feed", "(IIIII)I"⟩ prog_1_method_2_code 6 (Option.some ClassFile.FieldType.int) : Cond) ∈ mgw := mgw_in (mtin_2 (List.mem_of_getElem? (i := 81) rfl)) (by decide +kernel)
set_option maxRecDepth 20000 in
theorem wd_1260 : (Cond.code ⟨"ClauseIndex", "add", "(I)I"⟩ prog_1_method_3_code 3 (Option.some ClassFile.FieldType.int) : Cond) ∈ mgw := mgw_in (mtin_2 (List.mem_of_getElem? (i := 93) rfl)) (by decide +kernel)
set_option maxRecDepth 20000 in
theorem wd_1261 : (Cond.code ⟨"ClauseIndex", "query", "(I)I"⟩ prog_1_method_4_code 2 (Option.some ClassFile.FieldType.int) : Cond) ∈ mgw := mgw_in (mtin_2 (List.mem_of_getElem? (i := 210) rfl)) (by decide +kernel)
set_option maxRecDepth 20000 in
theorem wd_1262 : (Cond.code ⟨"ClauseIndex", "apply", "(I)I"⟩ prog_1_method_5_code 5 (Option.some ClassFile.FieldType.int) : Cond) ∈ mgw := mgw_in (mtin_2 (List.mem_of_getElem? (i := 218) rfl)) (by decide +kernel)
set_option maxRecDepth 20000 in
theorem wd_1263 : (Cond.code ⟨"ClauseIndex", "fault", "(I)I"⟩ prog_1_method_6_code 2 (Option.some ClassFile.FieldType.int) : Cond) ∈ mgw := mgw_in (mtin_3 (List.mem_of_getElem? (i := 23) rfl)) (by decide +kernel)
set_option maxRecDepth 20000 in
theorem wd_1264 : (Cond.code ⟨"ClauseIndex", "take", "(I)I"⟩ prog_1_method_7_code 3 (Option.some ClassFile.FieldType.int) : Cond) ∈ mgw := mgw_in (mtin_3 (List.mem_of_getElem? (i := 31) rfl)) (by decide +kernel)
set_option maxRecDepth 20000 in
theorem wd_1265 : (Cond.code ⟨"ClauseIndex", "keep", "()I"⟩ prog_1_method_8_code 2 (Option.some ClassFile.FieldType.int) : Cond) ∈ mgw := mgw_in (mtin_3 (List.mem_of_getElem? (i := 40) rfl)) (by decide +kernel)
set_option maxRecDepth 20000 in
theorem wd_1266 : (Cond.code ⟨"ClauseIndex", "remove", "(I)I"⟩ prog_1_method_9_code 2 (Option.some ClassFile.FieldType.int) : Cond) ∈ mgw := mgw_in (mtin_3 (List.mem_of_getElem? (i := 44) rfl)) (by decide +kernel)
set_option maxRecDepth 20000 in
theorem wd_1267 : (Cond.code ⟨"ClauseIndex", "literals", "(I)I"⟩ prog_1_method_10_code 3 (Option.some ClassFile.FieldType.int) : Cond) ∈ mgw := mgw_in (mtin_3 (List.mem_of_getElem? (i := 58) rfl)) (by decide +kernel)
set_option maxRecDepth 20000 in
theorem wd_1268 : (Cond.code ⟨"ClauseIndex", "literal", "(III)I"⟩ prog_1_method_11_code 6 (Option.some ClassFile.FieldType.int) : Cond) ∈ mgw := mgw_in (mtin_3 (List.mem_of_getElem? (i := 62) rfl)) (by decide +kernel)
set_option maxRecDepth 20000 in
theorem wd_1269 : (Cond.code ⟨"ClauseIndex", "code", "(II)I"⟩ prog_1_method_12_code 4 (Option.some ClassFile.FieldType.int) : Cond) ∈ mgw := mgw_in (mtin_3 (List.mem_of_getElem? (i := 76) rfl)) (by decide +kernel)
set_option maxRecDepth 20000 in
theorem wd_1270 : (Cond.code ⟨"ClauseIndex", "variables", "(I)I"⟩ prog_1_method_13_code 3 (Option.some ClassFile.FieldType.int) : Cond) ∈ mgw := mgw_in (mtin_3 (List.mem_of_getElem? (i := 81) rfl)) (by decide +kernel)
set_option maxRecDepth 20000 in
theorem wd_1271 : (Cond.code ⟨"ClauseIndex", "always", "(I)I"⟩ prog_1_method_14_code 5 (Option.some ClassFile.FieldType.int) : Cond) ∈ mgw := mgw_in (mtin_3 (List.mem_of_getElem? (i := 90) rfl)) (by decide +kernel)
set_option maxRecDepth 20000 in
theorem wd_1272 : (Cond.code ⟨"ClauseIndex", "condensed", "(II)I"⟩ prog_1_method_15_code 5 (Option.some ClassFile.FieldType.int) : Cond) ∈ mgw := mgw_in (mtin_3 (List.mem_of_getElem? (i := 104) rfl)) (by decide +kernel)
set_option maxRecDepth 20000 in
theorem wd_1273 : (Cond.code ⟨"ClauseIndex", "covers", "(III)I"⟩ prog_1_method_16_code 6 (Option.some ClassFile.FieldType.int) : Cond) ∈ mgw := mgw_in (mtin_3 (List.mem_of_getElem? (i := 145) rfl)) (by decide +kernel)
set_option maxRecDepth 20000 in
theorem wd_1274 : (Cond.code ⟨"ClauseIndex", "ways", "(III)I"⟩ prog_1_method_17_code 6 (Option.some ClassFile.FieldType.int) : Cond) ∈ mgw := mgw_in (mtin_3 (List.mem_of_getElem? (i := 159) rfl)) (by decide +kernel)
set_option maxRecDepth 20000 in
theorem wd_1275 : (Cond.code ⟨"ClauseIndex", "way", "(IIII)I"⟩ prog_1_method_18_code 7 (Option.some ClassFile.FieldType.int) : Cond) ∈ mgw := mgw_in (mtin_3 (List.mem_of_getElem? (i := 168) rfl)) (by decide +kernel)
set_option maxRecDepth 20000 in
theorem wd_1276 : (Cond.code ⟨"ClauseIndex", "bound", "(IIIII)I"⟩ prog_1_method_19_code 10 (Option.some ClassFile.FieldType.int) : Cond) ∈ mgw := mgw_in (mtin_3 (List.mem_of_getElem? (i := 176) rfl)) (by decide +kernel)
set_option maxRecDepth 20000 in
theorem wd_1277 : (Cond.code ⟨"ClauseIndex", "single", "(II)I"⟩ prog_1_method_20_code 7 (Option.some ClassFile.FieldType.int) : Cond) ∈ mgw := mgw_in (mtin_3 (List.mem_of_getElem? (i := 185) rfl)) (by decide +kernel)
set_option maxRecDepth 20000 in
theorem wd_1278 : (Cond.code ⟨"ClauseIndex", "factor", "(III)I"⟩ prog_1_method_21_code 6 (Option.some ClassFile.FieldType.int) : Cond) ∈ mgw := mgw_in (mtin_3 (List.mem_of_getElem? (i := 193) rfl)) (by decide +kernel)
set_option maxRecDepth 20000 in
theorem wd_1279 : (Cond.code ⟨"ClauseIndex", "alike", "(II)I"⟩ prog_1_method_22_code 5 (Option.some ClassFile.FieldType.int) : Cond) ∈ mgw := mgw_in (mtin_3 (List.mem_of_getElem? (i := 219) rfl)) (by decide +kernel)
set_option maxRecDepth 20000 in
theorem wd_1280 : (Cond.code ⟨"ClauseIndex", "value", "(III)I"⟩ prog_1_method_23_code 5 (Option.some ClassFile.FieldType.int) : Cond) ∈ mgw := mgw_in (mtin_3 (List.mem_of_getElem? (i := 227) rfl)) (by decide +kernel)
set_option maxRecDepth 20000 in
theorem wd_1281 : (Cond.code ⟨"ClauseIndex", "power", "(II)I"⟩ prog_1_method_24_code 3 (Option.some ClassFile.FieldType.int) : Cond) ∈ mgw := mgw_in (mtin_4 (List.mem_of_getElem? (i := 2) rfl)) (by decide +kernel)
set_option maxRecDepth 20000 in
theorem wd_1282 : (Cond.code ⟨"ClauseIndex", "choose", "(II)I"⟩ prog_1_method_25_code 3 (Option.some ClassFile.FieldType.int) : Cond) ∈ mgw := mgw_in (mtin_4 (List.mem_of_getElem? (i := 16) rfl)) (by decide +kernel)
set_option maxRecDepth 20000 in
theorem wd_1283 : (Cond.code ⟨"ClauseIndex", "greedy", "(II)I"⟩ prog_1_method_26_code 4 (Option.some ClassFile.FieldType.int) : Cond) ∈ mgw := mgw_in (mtin_4 (List.mem_of_getElem? (i := 62) rfl)) (by decide +kernel)
set_option maxRecDepth 20000 in
theorem wd_1284 : (Cond.code ⟨"ClauseIndex", "lay", "(I)I"⟩ prog_1_method_27_code 2 (Option.some ClassFile.FieldType.int) : Cond) ∈ mgw := mgw_in (mtin_4 (List.mem_of_getElem? (i := 97) rfl)) (by decide +kernel)
set_option maxRecDepth 20000 in
theorem wd_1285 : (Cond.code ⟨"ClauseIndex", "unlay", "()I"⟩ prog_1_method_28_code 1 (Option.some ClassFile.FieldType.int) : Cond) ∈ mgw := mgw_in (mtin_4 (List.mem_of_getElem? (i := 107) rfl)) (by decide +kernel)
set_option maxRecDepth 20000 in
theorem wd_1286 : (Cond.code ⟨"ClauseIndex", "order", "(I)I"⟩ prog_1_method_29_code 2 (Option.some ClassFile.FieldType.int) : Cond) ∈ mgw := mgw_in (mtin_4 (List.mem_of_getElem? (i := 115) rfl)) (by decide +kernel)
set_option maxRecDepth 20000 in
theorem wd_1287 : (Cond.code ⟨"ClauseIndex", "nodes", "()I"⟩ prog_1_method_30_code 1 (Option.some ClassFile.FieldType.int) : Cond) ∈ mgw := mgw_in (mtin_4 (List.mem_of_getElem? (i := 120) rfl)) (by decide +kernel)
set_option maxRecDepth 20000 in
theorem wd_1288 : (Cond.code ⟨"ClauseIndex", "node", "(II)I"⟩ prog_1_method_31_code 3 (Option.some ClassFile.FieldType.int) : Cond) ∈ mgw := mgw_in (mtin_4 (List.mem_of_getElem? (i := 124) rfl)) (by decide +kernel)
set_option maxRecDepth 20000 in
theorem wd_1289 : (Cond.code ⟨"ClauseIndex", "at", "(I)I"⟩ prog_1_method_32_code 2 (Option.some ClassFile.FieldType.int) : Cond) ∈ mgw := mgw_in (mtin_4 (List.mem_of_getElem? (i := 144) rfl)) (by decide +kernel)
set_option maxRecDepth 20000 in
theorem wd_1290 : (Cond.code ⟨"ClauseIndex", "forward", "(II)I"⟩ prog_1_method_33_code 3 (Option.some ClassFile.FieldType.int) : Cond) ∈ mgw := mgw_in (mtin_4 (List.mem_of_getElem? (i := 154) rfl)) (by decide +kernel)
set_option maxRecDepth 20000 in
theorem wd_1291 : (Cond.code ⟨"ClauseIndex", "backward", "(II)I"⟩ prog_1_method_34_code 3 (Option.some ClassFile.FieldType.int) : Cond) ∈ mgw := mgw_in (mtin_4 (List.mem_of_getElem? (i := 165) rfl)) (by decide +kernel)
set_option maxRecDepth 20000 in
theorem wd_1292 : (Cond.code ⟨"ClauseIndex", "visited", "(II)I"⟩ prog_1_method_35_code 3 (Option.some ClassFile.FieldType.int) : Cond) ∈ mgw := mgw_in (mtin_4 (List.mem_of_getElem? (i := 169) rfl)) (by decide +kernel)
set_option maxRecDepth 20000 in
theorem wd_1293 : (Cond.code ⟨"ClauseIndex", "candidates", "(II)I"⟩ prog_1_method_36_code 3 (Option.some ClassFile.FieldType.int) : Cond) ∈ mgw := mgw_in (mtin_4 (List.mem_of_getElem? (i := 188) rfl)) (by decide +kernel)
set_option maxRecDepth 20000 in
theorem wd_1294 : (Cond.code ⟨"ClauseIndex", "total", "(II)I"⟩ prog_1_method_37_code 6 (Option.some ClassFile.FieldType.int) : Cond) ∈ mgw := mgw_in (mtin_4 (List.mem_of_getElem? (i := 196) rfl)) (by decide +kernel)
set_option maxRecDepth 20000 in
theorem wd_1295 : (Cond.code ⟨"ClauseIndex", "pairs", "(II)I"⟩ prog_1_method_38_code 3 (Option.some ClassFile.FieldType.int) : Cond) ∈ mgw := mgw_in (mtin_4 (List.mem_of_getElem? (i := 200) rfl)) (by decide +kernel)
set_option maxRecDepth 20000 in
theorem wd_1296 : (Cond.code ⟨"ClauseIndex", "rate", "(I)I"⟩ prog_1_method_39_code 2 (Option.some ClassFile.FieldType.int) : Cond) ∈ mgw := mgw_in (mtin_4 (List.mem_of_getElem? (i := 231) rfl)) (by decide +kernel)
set_option maxRecDepth 20000 in
theorem wd_1297 : (Cond.code ⟨"ClauseIndex", "best", "(II)I"⟩ prog_1_method_40_code 3 (Option.some ClassFile.FieldType.int) : Cond) ∈ mgw := mgw_in (mtin_5 (List.mem_of_getElem? (i := 0) rfl)) (by decide +kernel)
set_option maxRecDepth 20000 in
theorem wd_1298 : (Cond.code ⟨"ClauseIndex", "redundant", "(I)I"⟩ prog_1_method_41_code 2 (Option.some ClassFile.FieldType.int) : Cond) ∈ mgw := mgw_in (mtin_5 (List.mem_of_getElem? (i := 20) rfl)) (by decide +kernel)
set_option maxRecDepth 20000 in
theorem wd_1299 : (Cond.code ⟨"ClauseIndex", "clean", "(I)I"⟩ prog_1_method_42_code 3 (Option.some ClassFile.FieldType.int) : Cond) ∈ mgw := mgw_in (mtin_5 (List.mem_of_getElem? (i := 28) rfl)) (by decide +kernel)
set_option maxRecDepth 20000 in
theorem wd_1300 : (Cond.code ⟨"ClauseIndex", "tops", "(I)I"⟩ prog_1_method_43_code 2 (Option.some ClassFile.FieldType.int) : Cond) ∈ mgw := mgw_in (mtin_5 (List.mem_of_getElem? (i := 36) rfl)) (by decide +kernel)
set_option maxRecDepth 20000 in
theorem wd_1301 : (Cond.code ⟨"ClauseIndex", "chain", "(II)I"⟩ prog_1_method_44_code 5 (Option.some ClassFile.FieldType.int) : Cond) ∈ mgw := mgw_in (mtin_5 (List.mem_of_getElem? (i := 44) rfl)) (by decide +kernel)
set_option maxRecDepth 20000 in
theorem wd_1302 : (Cond.code ⟨"ClauseIndex", "parts", "(I)I"⟩ prog_1_method_45_code 2 (Option.some ClassFile.FieldType.int) : Cond) ∈ mgw := mgw_in (mtin_5 (List.mem_of_getElem? (i := 64) rfl)) (by decide +kernel)
set_option maxRecDepth 20000 in
theorem wd_1303 : (Cond.code ⟨"ClauseIndex", "doubles", "()I"⟩ prog_1_method_46_code 3 (Option.some ClassFile.FieldType.int) : Cond) ∈ mgw := mgw_in (mtin_5 (List.mem_of_getElem? (i := 72) rfl)) (by decide +kernel)
set_option maxRecDepth 20000 in
theorem wd_1304 : (Cond.code ⟨"ClauseIndex", "undo", "(I)I"⟩ prog_1_method_47_code 2 (Option.some ClassFile.FieldType.int) : Cond) ∈ mgw := mgw_in (mtin_5 (List.mem_of_getElem? (i := 80) rfl)) (by decide +kernel)
set_option maxRecDepth 20000 in
theorem wd_1305 : (Cond.code ⟨"ClauseIndex", "image", "(I)I"⟩ prog_1_method_48_code 2 (Option.some ClassFile.FieldType.int) : Cond) ∈ mgw := mgw_in (mtin_5 (List.mem_of_getElem? (i := 92) rfl)) (by decide +kernel)
set_option maxRecDepth 20000 in
theorem wd_1306 : (Cond.code ⟨"ClauseIndex", "restore", "(I)I"⟩ prog_1_method_49_code 2 (Option.some ClassFile.FieldType.int) : Cond) ∈ mgw := mgw_in (mtin_5 (List.mem_of_getElem? (i := 97) rfl)) (by decide +kernel)
set_option maxRecDepth 20000 in
theorem wd_1307 : (Cond.code ⟨"ClauseIndex", "count", "(I)I"⟩ prog_1_method_50_code 2 (Option.some ClassFile.FieldType.int) : Cond) ∈ mgw := mgw_in (mtin_5 (List.mem_of_getElem? (i := 105) rfl)) (by decide +kernel)
set_option maxRecDepth 20000 in
theorem wd_1308 : (Cond.code ⟨"ClauseIndex", "isMode", "(I)Z"⟩ prog_1_method_51_code 1 (Option.some ClassFile.FieldType.boolean) : Cond) ∈ mgw := mgw_in (mtin_3 (List.mem_of_getElem? (i := 148) rfl)) (by decide +kernel)
set_option maxRecDepth 20000 in
theorem wd_1309 : (Cond.code ⟨"ClauseIndex", "isWay", "(I)Z"⟩ prog_1_method_52_code 1 (Option.some ClassFile.FieldType.boolean) : Cond) ∈ mgw := mgw_in (mtin_4 (List.mem_of_getElem? (i := 172) rfl)) (by decide +kernel)
set_option maxRecDepth 20000 in
theorem wd_1310 : (Cond.code ⟨"ClauseIndex", "isFeature", "(I)Z"⟩ prog_1_method_53_code 1 (Option.some ClassFile.FieldType.boolean) : Cond) ∈ mgw := mgw_in (mtin_3 (List.mem_of_getElem? (i := 230) rfl)) (by decide +kernel)
set_option maxRecDepth 20000 in
theorem wd_1311 : (Cond.code ⟨"ClauseIndex", "byMode", "(III)I"⟩ prog_1_method_54_code 3 (Option.some ClassFile.FieldType.int) : Cond) ∈ mgw := mgw_in (mtin_3 (List.mem_of_getElem? (i := 238) rfl)) (by decide +kernel)
set_option maxRecDepth 20000 in
theorem wd_1312 : (Cond.code ⟨"ClauseIndex", "isVariable", "(I)Z"⟩ prog_1_method_55_code 1 (Option.some ClassFile.FieldType.boolean) : Cond) ∈ mgw := mgw_in (mtin_2 (List.mem_of_getElem? (i := 225) rfl)) (by decide +kernel)
set_option maxRecDepth 20000 in
theorem wd_1313 : (Cond.code ⟨"ClauseIndex", "termsBehind", "(I)I"⟩ prog_1_method_56_code 1 (Option.some ClassFile.FieldType.int) : Cond) ∈ mgw := mgw_in (mtin_2 (List.mem_of_getElem? (i := 9) rfl)) (by decide +kernel)
set_option maxRecDepth 20000 in
theorem wd_1314 : (Cond.code ⟨"ClauseIndex", "clauseOf", "(I)LClauseIndex$Clause;"⟩ prog_1_method_57_code 2 (Option.some (ClassFile.FieldType.object "ClauseIndex$Clause")) : Cond) ∈ mgw := mgw_in (mtin_3 (List.mem_of_getElem? (i := 35) rfl)) (by decide +kernel)
set_option maxRecDepth 20000 in
theorem wd_1315 : (Cond.code ⟨"ClauseIndex", "change", "(ILClauseIndex$Clause;)V"⟩ prog_1_method_58_code 3 (Option.none : Option ClassFile.FieldType) : Cond) ∈ mgw := mgw_in (mtin_2 (List.mem_of_getElem? (i := 166) rfl)) (by decide +kernel)
set_option maxRecDepth 20000 in
theorem wd_1316 : (Cond.code ⟨"ClauseIndex", "changeOrder", "(I)V"⟩ prog_1_method_59_code 2 (Option.none : Option ClassFile.FieldType) : Cond) ∈ mgw := mgw_in (mtin_4 (List.mem_of_getElem? (i := 25) rfl)) (by decide +kernel)
set_option maxRecDepth 20000 in
theorem wd_1317 : (Cond.code ⟨"ClauseIndex", "forgetRelations", "()V"⟩ prog_1_method_60_code 1 (Option.none : Option ClassFile.FieldType) : Cond) ∈ mgw := mgw_in (mtin_2 (List.mem_of_getElem? (i := 202) rfl)) (by decide +kernel)
set_option maxRecDepth 20000 in
theorem wd_1318 : (Cond.code ⟨"ClauseIndex", "relation", "(I)LClauseIndex$Relation;"⟩ prog_1_method_61_code 7 (Option.some (ClassFile.FieldType.object "ClauseIndex$Relation")) : Cond) ∈ mgw := mgw_in (mtin_4 (List.mem_of_getElem? (i := 210) rfl)) (by decide +kernel)
set_option maxRecDepth 20000 in
theorem wd_1319 : (Cond.code ⟨"ClauseIndex", "fewest", "(LClauseIndex$Clause;)I"⟩ prog_1_method_62_code 5 (Option.some ClassFile.FieldType.int) : Cond) ∈ mgw := mgw_in (mtin_3 (List.mem_of_getElem? (i := 108) rfl)) (by decide +kernel)
set_option maxRecDepth 20000 in
theorem wd_1320 : (Cond.code ⟨"ClauseIndex", "makeSame", "(II)I"⟩ prog_1_method_63_code 7 (Option.some ClassFile.FieldType.int) : Cond) ∈ mgw := mgw_in (mtin_3 (List.mem_of_getElem? (i := 197) rfl)) (by decide +kernel)
set_option maxRecDepth 20000 in
theorem wd_1321 : (Cond.code ⟨"ClauseIndex", "makeSameSymbol", "(II)I"⟩ prog_1_method_64_code 5 (Option.some ClassFile.FieldType.int) : Cond) ∈ mgw := mgw_in (mtin_3 (List.mem_of_getElem? (i := 205) rfl)) (by decide +kernel)
set_option maxRecDepth 20000 in
theorem wd_1322 : (Cond.code ⟨"ClauseIndex", "putWithin", "(II)I"⟩ prog_1_method_65_code 5 (Option.some ClassFile.FieldType.int) : Cond) ∈ mgw := mgw_in (mtin_3 (List.mem_of_getElem? (i := 210) rfl)) (by decide +kernel)
set_option maxRecDepth 20000 in
theorem wd_1323 : (Cond.code ⟨"ClauseIndex", "judged", "(II)I"⟩ prog_1_method_66_code 6 (Option.some ClassFile.FieldType.int) : Cond) ∈ mgw := mgw_in (mtin_4 (List.mem_of_getElem? (i := 158) rfl)) (by decide +kernel)
set_option maxRecDepth 20000 in
theorem wd_1324 : (Cond.code ⟨"ClauseIndex", "pick", "(II)I"⟩ prog_1_method_67_code 4 (Option.some ClassFile.FieldType.int) : Cond) ∈ mgw := mgw_in (mtin_4 (List.mem_of_getElem? (i := 161) rfl)) (by decide +kernel)
set_option maxRecDepth 20000 in
theorem wd_1325 : (Cond.code ⟨"ClauseIndex", "isDouble", "(I)Z"⟩ prog_1_method_68_code 5 (Option.some ClassFile.FieldType.boolean) : Cond) ∈ mgw := mgw_in (mtin_5 (List.mem_of_getElem? (i := 76) rfl)) (by decide +kernel)
set_option maxRecDepth 20000 in
theorem wd_1326 : (Cond.code ⟨"ClauseIndex", "floatBits", "(II)I"⟩ prog_1_method_69_code 7 (Option.some ClassFile.FieldType.int) : Cond) ∈ mgw := mgw_in (mtin_4 (List.mem_of_getElem? (i := 234) rfl)) (by decide +kernel)
set_option maxRecDepth 20000 in
theorem wd_1327 : (Cond.code ⟨"ClauseIndexModel", "within", "(JJJ)Z"⟩ prog_12_method_2_code 6 (Option.some ClassFile.FieldType.boolean) : Cond) ∈ mgw := mgw_in (mtin_6 (List.mem_of_getElem? (i := 28) rfl)) (by decide +kernel)
set_option maxRecDepth 20000 in
theorem wd_1328 : (Cond.code ⟨"ClauseIndexModel", "<init>", "()V"⟩ prog_12_method_3_code 1 (Option.none : Option ClassFile.FieldType) : Cond) ∈ mgw := mgw_in (mtin_5 (List.mem_of_getElem? (i := 110) rfl)) (by decide +kernel)
set_option maxRecDepth 20000 in
theorem wd_1329 : (Cond.code ⟨"ClauseIndexModel", "isClause", "(I)Z"⟩ prog_12_method_4_code 2 (Option.some ClassFile.FieldType.boolean) : Cond) ∈ mgw := mgw_in (mtin_6 (List.mem_of_getElem? (i := 134) rfl)) (by decide +kernel)
set_option maxRecDepth 20000 in
theorem wd_1330 : (Cond.code ⟨"ClauseIndexModel", "isKept", "(I)Z"⟩ prog_12_method_5_code 2 (Option.some ClassFile.FieldType.boolean) : Cond) ∈ mgw := mgw_in (mtin_6 (List.mem_of_getElem? (i := 151) rfl)) (by decide +kernel)
set_option maxRecDepth 20000 in
theorem wd_1331 : (Cond.code ⟨"ClauseIndexModel", "longOf", "(I)I"⟩ prog_12_method_6_code 2 (Option.some ClassFile.FieldType.int) : Cond) ∈ mgw := mgw_in (mtin_6 (List.mem_of_getElem? (i := 102) rfl)) (by decide +kernel)
set_option maxRecDepth 20000 in
theorem wd_1332 : (Cond.code ⟨"ClauseIndexModel", "codeAt", "(II)I"⟩ prog_12_method_7_code 3 (Option.some ClassFile.FieldType.int) : Cond) ∈ mgw := mgw_in (mtin_6 (List.mem_of_getElem? (i := 106) rfl)) (by decide +kernel)
set_option maxRecDepth 20000 in
theorem wd_1333 : (Cond.code ⟨"ClauseIndexModel", "keptMany", "()I"⟩ prog_12_method_8_code 3 (Option.some ClassFile.FieldType.int) : Cond) ∈ mgw := mgw_in (mtin_6 (List.mem_of_getElem? (i := 159) rfl)) (by decide +kernel)
set_option maxRecDepth 20000 in
theorem wd_1334 : (Cond.code ⟨"ClauseIndexModel", "partsOf", "(I)I"⟩ prog_12_method_9_code 1 (Option.some ClassFile.FieldType.int) : Cond) ∈ mgw := mgw_in (mtin_6 (List.mem_of_getElem? (i := 63) rfl)) (by decide +kernel)
set_option maxRecDepth 20000 in
theorem wd_1335 : (Cond.code ⟨"ClauseIndexModel", "pastOf", "(II)I"⟩ prog_12_method_10_code 5 (Option.some ClassFile.FieldType.int) : Cond) ∈ mgw := mgw_in (mtin_6 (List.mem_of_getElem? (i := 189) rfl)) (by decide +kernel)
set_option maxRecDepth 20000 in
theorem wd_1336 : (Cond.code ⟨"ClauseIndexModel", "literalMany", "(I)I"⟩ prog_12_method_11_code 4 (Option.some ClassFile.FieldType.int) : Cond) ∈ mgw := mgw_in (mtin_6 (List.mem_of_getElem? (i := 98) rfl)) (by decide +kernel)
set_option maxRecDepth 20000 in
theorem wd_1337 : (Cond.code ⟨"ClauseIndexModel", "beginOf", "(II)I"⟩ prog_12_method_12_code 5 (Option.some ClassFile.FieldType.int) : Cond) ∈ mgw := mgw_in (mtin_6 (List.mem_of_getElem? (i := 185) rfl)) (by decide +kernel)
set_option maxRecDepth 20000 in
theorem wd_1338 : (Cond.code ⟨"ClauseIndexModel", "feed", "(IIIII)I"⟩ prog_12_method_13_code 8 (Option.some ClassFile.FieldType.int) : Cond) ∈ mgw := mgw_in (mtin_6 (List.mem_of_getElem? (i := 21) rfl)) (by decide +kernel)
set_option maxRecDepth 20000 in
theorem wd_1339 : (Cond.code ⟨"ClauseIndexModel", "see", "()I"⟩ prog_12_method_14_code 1 (Option.some ClassFile.FieldType.int) : Cond) ∈ mgw := mgw_in (mtin_6 (List.mem_of_getElem? (i := 52) rfl)) (by decide +kernel)
set_option maxRecDepth 20000 in
theorem wd_1340 : (Cond.code ⟨"ClauseIndexModel", "fails", "(I)V"⟩ prog_12_method_15_code 2 (Option.none : Option ClassFile.FieldType) : Cond) ∈ mgw := mgw_in (mtin_6 (List.mem_of_getElem? (i := 56) rfl)) (by decide +kernel)
set_option maxRecDepth 20000 in
theorem wd_1341 : (Cond.code ⟨"ClauseIndexModel", "eats", "(I)Z"⟩ prog_12_method_16_code 2 (Option.some ClassFile.FieldType.boolean) : Cond) ∈ mgw := mgw_in (mtin_6 (List.mem_of_getElem? (i := 48) rfl)) (by decide +kernel)
set_option maxRecDepth 20000 in
theorem wd_1342 : (Cond.code ⟨"ClauseIndexModel", "wants", "(I)V"⟩ prog_12_method_17_code 2 (Option.none : Option ClassFile.FieldType) : Cond) ∈ mgw := mgw_in (mtin_6 (List.mem_of_getElem? (i := 71) rfl)) (by decide +kernel)
set_option maxRecDepth 20000 in
theorem wd_1343 : (Cond.code ⟨"ClauseIndexModel", "lays", "(I)V"⟩ prog_12_method_18_code 2 (Option.none : Option ClassFile.FieldType) : Cond) ∈ mgw := mgw_in (mtin_6 (List.mem_of_getElem? (i := 60) rfl)) (by decide +kernel)
set_option maxRecDepth 20000 in
theorem wd_1344 : (Cond.code ⟨"ClauseIndexModel", "termCode", "(I)I"⟩ prog_12_method_19_code 1 (Option.some ClassFile.FieldType.int) : Cond) ∈ mgw := mgw_in (mtin_6 (List.mem_of_getElem? (i := 78) rfl)) (by decide +kernel)
set_option maxRecDepth 20000 in
theorem wd_1345 : (Cond.code ⟨"ClauseIndexModel", "readTerm", "()V"⟩ prog_12_method_20_code 2 (Option.none : Option ClassFile.FieldType) : Cond) ∈ mgw := mgw_in (mtin_6 (List.mem_of_getElem? (i := 75) rfl)) (by decide +kernel)
set_option maxRecDepth 20000 in
theorem wd_1346 : (Cond.code ⟨"ClauseIndexModel", "readParts", "(I)V"⟩ prog_12_method_21_code 2 (Option.none : Option ClassFile.FieldType) : Cond) ∈ mgw := mgw_in (mtin_6 (List.mem_of_getElem? (i := 67) rfl)) (by decide +kernel)
set_option maxRecDepth 20000 in
theorem wd_1347 : (Cond.code ⟨"ClauseIndexModel", "readLiteral", "()V"⟩ prog_12_method_22_code 4 (Option.none : Option ClassFile.FieldType) : Cond) ∈ mgw := mgw_in (mtin_6 (List.mem_of_getElem? (i := 44) rfl)) (by decide +kernel)
set_option maxRecDepth 20000 in
theorem wd_1348 : (Cond.code ⟨"ClauseIndexModel", "begins", "(I)V"⟩ prog_12_method_23_code 2 (Option.none : Option ClassFile.FieldType) : Cond) ∈ mgw := mgw_in (mtin_6 (List.mem_of_getElem? (i := 40) rfl)) (by decide +kernel)
set_option maxRecDepth 20000 in
theorem wd_1349 : (Cond.code ⟨"ClauseIndexModel", "ends", "()V"⟩ prog_12_method_24_code 1 (Option.none : Option ClassFile.FieldType) : Cond) ∈ mgw := mgw_in (mtin_6 (List.mem_of_getElem? (i := 82) rfl)) (by decide +kernel)
set_option maxRecDepth 20000 in
theorem wd_1350 : (Cond.code ⟨"ClauseIndexModel", "readsClause", "(I)V"⟩ prog_12_method_25_code 3 (Option.none : Option ClassFile.FieldType) : Cond) ∈ mgw := mgw_in (mtin_6 (List.mem_of_getElem? (i := 36) rfl)) (by decide +kernel)
set_option maxRecDepth 20000 in
theorem wd_1351 : (Cond.code ⟨"ClauseIndexModel", "keeps", "(I)V"⟩ prog_12_method_26_code 3 (Option.none : Option ClassFile.FieldType) : Cond) ∈ mgw := mgw_in (mtin_6 (List.mem_of_getElem? (i := 90) rfl)) (by decide +kernel)
set_option maxRecDepth 20000 in
theorem wd_1352 : (Cond.code ⟨"ClauseIndexModel", "lowestFree", "()I"⟩ prog_12_method_27_code 2 (Option.some ClassFile.FieldType.int) : Cond) ∈ mgw := mgw_in (mtin_6 (List.mem_of_getElem? (i := 32) rfl)) (by decide +kernel)
set_option maxRecDepth 20000 in
theorem wd_1353 : (Cond.code ⟨"ClauseIndexModel", "add", "(I)I"⟩ prog_12_method_28_code 3 (Option.some ClassFile.FieldType.int) : Cond) ∈ mgw := mgw_in (mtin_6 (List.mem_of_getElem? (i := 25) rfl)) (by decide +kernel)
set_option maxRecDepth 20000 in
theorem wd_1354 : (Cond.code ⟨"ClauseIndexModel", "query", "(I)I"⟩ prog_12_method_29_code 2 (Option.some ClassFile.FieldType.int) : Cond) ∈ mgw := mgw_in (mtin_6 (List.mem_of_getElem? (i := 94) rfl)) (by decide +kernel)
set_option maxRecDepth 20000 in
theorem wd_1355 : (Cond.code ⟨"ClauseIndexModel", "puts", "(I)V"⟩ prog_12_method_30_code 2 (Option.none : Option ClassFile.FieldType) : Cond) ∈ mgw := mgw_in (mtin_6 (List.mem_of_getElem? (i := 114) rfl)) (by decide +kernel)
set_option maxRecDepth 20000 in
theorem wd_1356 : (Cond.code ⟨"ClauseIndexModel", "isShallow", "()Z"⟩ prog_12_method_31_code 4 (Option.some ClassFile.FieldType.boolean) : Cond) ∈ mgw := mgw_in (mtin_6 (List.mem_of_getElem? (i := 118) rfl)) (by decide +kernel)
set_option maxRecDepth 20000 in
theorem wd_1357 : (Cond.code ⟨"ClauseIndexModel", "pastOfPut", "(I)I"⟩ prog_12_method_32_code 4 (Option.some ClassFile.FieldType.int) : Cond) ∈ mgw := mgw_in (mtin_6 (List.mem_of_getElem? (i := 122) rfl)) (by decide +kernel)
set_option maxRecDepth 20000 in
theorem wd_1358 : (Cond.code ⟨"ClauseIndexModel", "apply", "(I)I"⟩ prog_12_method_33_code 5 (Option.some ClassFile.FieldType.int) : Cond) ∈ mgw := mgw_in (mtin_6 (List.mem_of_getElem? (i := 110) rfl)) (by decide +kernel)
set_option maxRecDepth 20000 in
theorem wd_1359 : (Cond.code ⟨"ClauseIndexModel", "fault", "(I)I"⟩ prog_12_method_34_code 2 (Option.some ClassFile.FieldType.int) : Cond) ∈ mgw := mgw_in (mtin_6 (List.mem_of_getElem? (i := 126) rfl)) (by decide +kernel)
set_option maxRecDepth 20000 in
theorem wd_1360 : (Cond.code ⟨"ClauseIndexModel", "copies", "(II)V"⟩ prog_12_method_35_code 4 (Option.none : Option ClassFile.FieldType) : Cond) ∈ mgw := mgw_in (mtin_6 (List.mem_of_getElem? (i := 139) rfl)) (by decide +kernel)
set_option maxRecDepth 20000 in
theorem wd_1361 : (Cond.code ⟨"ClauseIndexModel", "take", "(I)I"⟩ prog_12_method_36_code 2 (Option.some ClassFile.FieldType.int) : Cond) ∈ mgw := mgw_in (mtin_6 (List.mem_of_getElem? (i := 130) rfl)) (by decide +kernel)
set_option maxRecDepth 20000 in
theorem wd_1362 : (Cond.code ⟨"ClauseIndexModel", "keep", "()I"⟩ prog_12_method_37_code 2 (Option.some ClassFile.FieldType.int) : Cond) ∈ mgw := mgw_in (mtin_6 (List.mem_of_getElem? (i := 143) rfl)) (by decide +kernel)
set_option maxRecDepth 20000 in
theorem wd_1363 : (Cond.code ⟨"ClauseIndexModel", "goes", "(I)V"⟩ prog_12_method_38_code 3 (Option.none : Option ClassFile.FieldType) : Cond) ∈ mgw := mgw_in (mtin_6 (List.mem_of_getElem? (i := 155) rfl)) (by decide +kernel)
set_option maxRecDepth 20000 in
theorem wd_1364 : (Cond.code ⟨"ClauseIndexModel", "remove", "(I)I"⟩ prog_12_method_39_code 2 (Option.some ClassFile.FieldType.int) : Cond) ∈ mgw := mgw_in (mtin_6 (List.mem_of_getElem? (i := 147) rfl)) (by decide +kernel)
set_option maxRecDepth 20000 in
theorem wd_1365 : (Cond.code ⟨"ClauseIndexModel", "notes", "()V"⟩ prog_12_method_40_code 2 (Option.none : Option ClassFile.FieldType) : Cond) ∈ mgw := mgw_in (mtin_6 (List.mem_of_getElem? (i := 86) rfl)) (by decide +kernel)
set_option maxRecDepth 20000 in
theorem wd_1366 : (Cond.code ⟨"ClauseIndexModel", "undo", "(I)I"⟩ prog_12_method_41_code 3 (Option.some ClassFile.FieldType.int) : Cond) ∈ mgw := mgw_in (mtin_6 (List.mem_of_getElem? (i := 163) rfl)) (by decide +kernel)
set_option maxRecDepth 20000 in
theorem wd_1367 : (Cond.code ⟨"ClauseIndexModel", "image", "(I)I"⟩ prog_12_method_42_code 3 (Option.some ClassFile.FieldType.int) : Cond) ∈ mgw := mgw_in (mtin_6 (List.mem_of_getElem? (i := 168) rfl)) (by decide +kernel)
set_option maxRecDepth 20000 in
theorem wd_1368 : (Cond.code ⟨"ClauseIndexModel", "restore", "(I)I"⟩ prog_12_method_43_code 3 (Option.some ClassFile.FieldType.int) : Cond) ∈ mgw := mgw_in (mtin_6 (List.mem_of_getElem? (i := 172) rfl)) (by decide +kernel)
set_option maxRecDepth 20000 in
theorem wd_1369 : (Cond.code ⟨"ClauseIndexModel", "literals", "(I)I"⟩ prog_12_method_44_code 2 (Option.some ClassFile.FieldType.int) : Cond) ∈ mgw := mgw_in (mtin_6 (List.mem_of_getElem? (i := 176) rfl)) (by decide +kernel)
set_option maxRecDepth 20000 in
theorem wd_1370 : (Cond.code ⟨"ClauseIndexModel", "literal", "(III)I"⟩ prog_12_method_45_code 6 (Option.some ClassFile.FieldType.int) : Cond) ∈ mgw := mgw_in (mtin_6 (List.mem_of_getElem? (i := 180) rfl)) (by decide +kernel)
set_option maxRecDepth 20000 in
theorem wd_1371 : (Cond.code ⟨"ClauseIndexModel", "code", "(II)I"⟩ prog_12_method_46_code 3 (Option.some ClassFile.FieldType.int) : Cond) ∈ mgw := mgw_in (mtin_6 (List.mem_of_getElem? (i := 193) rfl)) (by decide +kernel)
set_option maxRecDepth 20000 in
theorem wd_1372 : (Cond.code ⟨"ClauseIndexModel", "isVariable", "(I)Z"⟩ prog_12_method_47_code 1 (Option.some ClassFile.FieldType.boolean) : Cond) ∈ mgw := mgw_in (mtin_6 (List.mem_of_getElem? (i := 204) rfl)) (by decide +kernel)
set_option maxRecDepth 20000 in
theorem wd_1373 : (Cond.code ⟨"ClauseIndexModel", "variablesOf", "(I)I"⟩ prog_12_method_48_code 4 (Option.some ClassFile.FieldType.int) : Cond) ∈ mgw := mgw_in (mtin_6 (List.mem_of_getElem? (i := 201) rfl)) (by decide +kernel)
set_option maxRecDepth 20000 in
theorem wd_1374 : (Cond.code ⟨"ClauseIndexModel", "variables", "(I)I"⟩ prog_12_method_49_code 2 (Option.some ClassFile.FieldType.int) : Cond) ∈ mgw := mgw_in (mtin_6 (List.mem_of_getElem? (i := 197) rfl)) (by decide +kernel)
set_option maxRecDepth 20000 in
theorem wd_1375 : (Cond.code ⟨"ClauseIndexModel", "areSame", "(IIIII)Z"⟩ prog_12_method_50_code 7 (Option.some ClassFile.FieldType.boolean) : Cond) ∈ mgw := mgw_in (mtin_6 (List.mem_of_getElem? (i := 214) rfl)) (by decide +kernel)
set_option maxRecDepth 20000 in
theorem wd_1376 : (Cond.code ⟨"ClauseIndexModel", "always", "(I)I"⟩ prog_12_method_51_code 7 (Option.some ClassFile.FieldType.int) : Cond) ∈ mgw := mgw_in (mtin_6 (List.mem_of_getElem? (i := 210) rfl)) (by decide +kernel)
set_option maxRecDepth 20000 in
theorem wd_1377 : (Cond.code ⟨"ClauseIndexModel", "matches", "(III)Z"⟩ prog_12_method_52_code 12 (Option.some ClassFile.FieldType.boolean) : Cond) ∈ mgw := mgw_in (mtin_7 (List.mem_of_getElem? (i := 9) rfl)) (by decide +kernel)
set_option maxRecDepth 20000 in
theorem wd_1378 : (Cond.code ⟨"ClauseIndexModel", "isRenaming", "(I)Z"⟩ prog_12_method_53_code 6 (Option.some ClassFile.FieldType.boolean) : Cond) ∈ mgw := mgw_in (mtin_7 (List.mem_of_getElem? (i := 5) rfl)) (by decide +kernel)
set_option maxRecDepth 20000 in
theorem wd_1379 : (Cond.code ⟨"ClauseIndexModel", "counts", "(I)V"⟩ prog_12_method_54_code 3 (Option.none : Option ClassFile.FieldType) : Cond) ∈ mgw := mgw_in (mtin_7 (List.mem_of_getElem? (i := 1) rfl)) (by decide +kernel)
set_option maxRecDepth 20000 in
theorem wd_1380 : (Cond.code ⟨"ClauseIndexModel", "goesWays", "(I)V"⟩ prog_12_method_55_code 5 (Option.none : Option ClassFile.FieldType) : Cond) ∈ mgw := mgw_in (mtin_6 (List.mem_of_getElem? (i := 237) rfl)) (by decide +kernel)
set_option maxRecDepth 20000 in
theorem wd_1381 : (Cond.code ⟨"ClauseIndexModel", "waysTo", "(IIIII)I"⟩ prog_12_method_56_code 7 (Option.some ClassFile.FieldType.int) : Cond) ∈ mgw := mgw_in (mtin_6 (List.mem_of_getElem? (i := 233) rfl)) (by decide +kernel)
set_option maxRecDepth 20000 in
theorem wd_1382 : (Cond.code ⟨"ClauseIndexModel", "doesCover", "(III)Z"⟩ prog_12_method_57_code 4 (Option.some ClassFile.FieldType.boolean) : Cond) ∈ mgw := mgw_in (mtin_6 (List.mem_of_getElem? (i := 229) rfl)) (by decide +kernel)
set_option maxRecDepth 20000 in
theorem wd_1383 : (Cond.code ⟨"ClauseIndexModel", "areAlike", "(II)Z"⟩ prog_12_method_58_code 3 (Option.some ClassFile.FieldType.boolean) : Cond) ∈ mgw := mgw_in (mtin_7 (List.mem_of_getElem? (i := 31) rfl)) (by decide +kernel)
set_option maxRecDepth 20000 in
theorem wd_1384 : (Cond.code ⟨"ClauseIndexModel", "isMode", "(I)Z"⟩ prog_12_method_59_code 1 (Option.some ClassFile.FieldType.boolean) : Cond) ∈ mgw := mgw_in (mtin_6 (List.mem_of_getElem? (i := 225) rfl)) (by decide +kernel)
set_option maxRecDepth 20000 in
theorem wd_1385 : (Cond.code ⟨"ClauseIndexModel", "areTold", "(III)Z"⟩ prog_12_method_60_code 4 (Option.some ClassFile.FieldType.boolean) : Cond) ∈ mgw := mgw_in (mtin_6 (List.mem_of_getElem? (i := 222) rfl)) (by decide +kernel)
set_option maxRecDepth 20000 in
theorem wd_1386 : (Cond.code ⟨"ClauseIndexModel", "covers", "(III)I"⟩ prog_12_method_61_code 4 (Option.some ClassFile.FieldType.int) : Cond) ∈ mgw := mgw_in (mtin_6 (List.mem_of_getElem? (i := 218) rfl)) (by decide +kernel)
set_option maxRecDepth 20000 in
theorem wd_1387 : (Cond.code ⟨"ClauseIndexModel", "ways", "(III)I"⟩ prog_12_method_62_code 4 (Option.some ClassFile.FieldType.int) : Cond) ∈ mgw := mgw_in (mtin_7 (List.mem_of_getElem? (i := 13) rfl)) (by decide +kernel)
set_option maxRecDepth 20000 in
theorem wd_1388 : (Cond.code ⟨"ClauseIndexModel", "way", "(IIII)I"⟩ prog_12_method_63_code 5 (Option.some ClassFile.FieldType.int) : Cond) ∈ mgw := mgw_in (mtin_7 (List.mem_of_getElem? (i := 18) rfl)) (by decide +kernel)
set_option maxRecDepth 20000 in
theorem wd_1389 : (Cond.code ⟨"ClauseIndexModel", "bound", "(IIIII)I"⟩ prog_12_method_64_code 7 (Option.some ClassFile.FieldType.int) : Cond) ∈ mgw := mgw_in (mtin_7 (List.mem_of_getElem? (i := 22) rfl)) (by decide +kernel)
set_option maxRecDepth 20000 in
theorem wd_1390 : (Cond.code ⟨"ClauseIndexModel", "alike", "(II)I"⟩ prog_12_method_65_code 3 (Option.some ClassFile.FieldType.int) : Cond) ∈ mgw := mgw_in (mtin_7 (List.mem_of_getElem? (i := 27) rfl)) (by decide +kernel)
set_option maxRecDepth 20000 in
theorem wd_1391 : (Cond.code ⟨"ClauseIndexModel", "single", "(II)I"⟩ prog_12_method_66_code 6 (Option.some ClassFile.FieldType.int) : Cond) ∈ mgw := mgw_in (mtin_7 (List.mem_of_getElem? (i := 35) rfl)) (by decide +kernel)
set_option maxRecDepth 20000 in
theorem wd_1392 : (Cond.code ⟨"ClauseIndexModel", "putBegin", "(I)I"⟩ prog_12_method_67_code 4 (Option.some ClassFile.FieldType.int) : Cond) ∈ mgw := mgw_in (mtin_7 (List.mem_of_getElem? (i := 47) rfl)) (by decide +kernel)
set_option maxRecDepth 20000 in
theorem wd_1393 : (Cond.code ⟨"ClauseIndexModel", "putsTerm", "(II)I"⟩ prog_12_method_68_code 7 (Option.some ClassFile.FieldType.int) : Cond) ∈ mgw := mgw_in (mtin_7 (List.mem_of_getElem? (i := 51) rfl)) (by decide +kernel)
set_option maxRecDepth 20000 in
theorem wd_1394 : (Cond.code ⟨"ClauseIndexModel", "unites", "(II)I"⟩ prog_12_method_69_code 9 (Option.some ClassFile.FieldType.int) : Cond) ∈ mgw := mgw_in (mtin_7 (List.mem_of_getElem? (i := 43) rfl)) (by decide +kernel)
set_option maxRecDepth 20000 in
theorem wd_1395 : (Cond.code ⟨"ClauseIndexModel", "factor", "(III)I"⟩ prog_12_method_70_code 8 (Option.some ClassFile.FieldType.int) : Cond) ∈ mgw := mgw_in (mtin_7 (List.mem_of_getElem? (i := 39) rfl)) (by decide +kernel)
set_option maxRecDepth 20000 in
theorem wd_1396 : (Cond.code ⟨"ClauseIndexModel", "bitsOf", "(I)I"⟩ prog_12_method_71_code 3 (Option.some ClassFile.FieldType.int) : Cond) ∈ mgw := mgw_in (mtin_7 (List.mem_of_getElem? (i := 58) rfl)) (by decide +kernel)
set_option maxRecDepth 20000 in
theorem wd_1397 : (Cond.code ⟨"ClauseIndexModel", "condensed", "(II)I"⟩ prog_12_method_72_code 5 (Option.some ClassFile.FieldType.int) : Cond) ∈ mgw := mgw_in (mtin_7 (List.mem_of_getElem? (i := 55) rfl)) (by decide +kernel)
set_option maxRecDepth 20000 in
theorem wd_1398 : (Cond.code ⟨"ClauseIndexModel", "valueOf", "(III)I"⟩ prog_12_method_73_code 9 (Option.some ClassFile.FieldType.int) : Cond) ∈ mgw := mgw_in (mtin_7 (List.mem_of_getElem? (i := 70) rfl)) (by decide +kernel)
set_option maxRecDepth 20000 in
theorem wd_1399 : (Cond.code ⟨"ClauseIndexModel", "depthOf", "(II)I"⟩ prog_12_method_74_code 5 (Option.some ClassFile.FieldType.int) : Cond) ∈ mgw := mgw_in (mtin_7 (List.mem_of_getElem? (i := 74) rfl)) (by decide +kernel)
set_option maxRecDepth 20000 in
theorem wd_1400 : (Cond.code ⟨"ClauseIndexModel", "isFeature", "(I)Z"⟩ prog_12_method_75_code 1 (Option.some ClassFile.FieldType.boolean) : Cond) ∈ mgw := mgw_in (mtin_7 (List.mem_of_getElem? (i := 65) rfl)) (by decide +kernel)
set_option maxRecDepth 20000 in
theorem wd_1401 : (Cond.code ⟨"ClauseIndexModel", "laysValues", "(I)V"⟩ prog_12_method_76_code 4 (Option.none : Option ClassFile.FieldType) : Cond) ∈ mgw := mgw_in (mtin_7 (List.mem_of_getElem? (i := 82) rfl)) (by decide +kernel)
set_option maxRecDepth 20000 in
theorem wd_1402 : (Cond.code ⟨"ClauseIndexModel", "powerNow", "(I)I"⟩ prog_12_method_77_code 5 (Option.some ClassFile.FieldType.int) : Cond) ∈ mgw := mgw_in (mtin_7 (List.mem_of_getElem? (i := 86) rfl)) (by decide +kernel)
set_option maxRecDepth 20000 in
theorem wd_1403 : (Cond.code ⟨"ClauseIndexModel", "value", "(III)I"⟩ prog_12_method_78_code 4 (Option.some ClassFile.FieldType.int) : Cond) ∈ mgw := mgw_in (mtin_7 (List.mem_of_getElem? (i := 62) rfl)) (by decide +kernel)
set_option maxRecDepth 20000 in
theorem wd_1404 : (Cond.code ⟨"ClauseIndexModel", "power", "(II)I"⟩ prog_12_method_79_code 3 (Option.some ClassFile.FieldType.int) : Cond) ∈ mgw := mgw_in (mtin_7 (List.mem_of_getElem? (i := 78) rfl)) (by decide +kernel)
set_option maxRecDepth 20000 in
theorem wd_1405 : (Cond.code ⟨"ClauseIndexModel", "choose", "(II)I"⟩ prog_12_method_80_code 7 (Option.some ClassFile.FieldType.int) : Cond) ∈ mgw := mgw_in (mtin_7 (List.mem_of_getElem? (i := 90) rfl)) (by decide +kernel)
set_option maxRecDepth 20000 in
theorem wd_1406 : (Cond.code ⟨"ClauseIndexModel", "pairsWith", "(II)I"⟩ prog_12_method_81_code 8 (Option.some ClassFile.FieldType.int) : Cond) ∈ mgw := mgw_in (mtin_7 (List.mem_of_getElem? (i := 119) rfl)) (by decide +kernel)
set_option maxRecDepth 20000 in
theorem wd_1407 : (Cond.code ⟨"ClauseIndexModel", "isChosen", "(II)Z"⟩ prog_12_method_82_code 4 (Option.some ClassFile.FieldType.boolean) : Cond) ∈ mgw := mgw_in (mtin_7 (List.mem_of_getElem? (i := 115) rfl)) (by decide +kernel)
set_option maxRecDepth 20000 in
theorem wd_1408 : (Cond.code ⟨"ClauseIndexModel", "greedy", "(II)I"⟩ prog_12_method_83_code 8 (Option.some ClassFile.FieldType.int) : Cond) ∈ mgw := mgw_in (mtin_7 (List.mem_of_getElem? (i := 111) rfl)) (by decide +kernel)
set_option maxRecDepth 20000 in
theorem wd_1409 : (Cond.code ⟨"ClauseIndexModel", "lay", "(I)I"⟩ prog_12_method_84_code 3 (Option.some ClassFile.FieldType.int) : Cond) ∈ mgw := mgw_in (mtin_7 (List.mem_of_getElem? (i := 123) rfl)) (by decide +kernel)
set_option maxRecDepth 20000 in
theorem wd_1410 : (Cond.code ⟨"ClauseIndexModel", "unlay", "()I"⟩ prog_12_method_85_code 1 (Option.some ClassFile.FieldType.int) : Cond) ∈ mgw := mgw_in (mtin_7 (List.mem_of_getElem? (i := 127) rfl)) (by decide +kernel)
set_option maxRecDepth 20000 in
theorem wd_1411 : (Cond.code ⟨"ClauseIndexModel", "order", "(I)I"⟩ prog_12_method_86_code 2 (Option.some ClassFile.FieldType.int) : Cond) ∈ mgw := mgw_in (mtin_7 (List.mem_of_getElem? (i := 131) rfl)) (by decide +kernel)
set_option maxRecDepth 20000 in
theorem wd_1412 : (Cond.code ⟨"ClauseIndexModel", "firstUnlike", "(II)I"⟩ prog_12_method_87_code 4 (Option.some ClassFile.FieldType.int) : Cond) ∈ mgw := mgw_in (mtin_7 (List.mem_of_getElem? (i := 107) rfl)) (by decide +kernel)
set_option maxRecDepth 20000 in
theorem wd_1413 : (Cond.code ⟨"ClauseIndexModel", "isAhead", "(II)Z"⟩ prog_12_method_88_code 4 (Option.some ClassFile.FieldType.boolean) : Cond) ∈ mgw := mgw_in (mtin_7 (List.mem_of_getElem? (i := 103) rfl)) (by decide +kernel)
set_option maxRecDepth 20000 in
theorem wd_1414 : (Cond.code ⟨"ClauseIndexModel", "laysNode", "(III)V"⟩ prog_12_method_89_code 4 (Option.none : Option ClassFile.FieldType) : Cond) ∈ mgw := mgw_in (mtin_7 (List.mem_of_getElem? (i := 99) rfl)) (by decide +kernel)
set_option maxRecDepth 20000 in
theorem wd_1415 : (Cond.code ⟨"ClauseIndexModel", "laysTree", "()V"⟩ prog_12_method_90_code 6 (Option.none : Option ClassFile.FieldType) : Cond) ∈ mgw := mgw_in (mtin_7 (List.mem_of_getElem? (i := 95) rfl)) (by decide +kernel)
set_option maxRecDepth 20000 in
theorem wd_1416 : (Cond.code ⟨"ClauseIndexModel", "nodes", "()I"⟩ prog_12_method_91_code 1 (Option.some ClassFile.FieldType.int) : Cond) ∈ mgw := mgw_in (mtin_7 (List.mem_of_getElem? (i := 135) rfl)) (by decide +kernel)
set_option maxRecDepth 20000 in
theorem wd_1417 : (Cond.code ⟨"ClauseIndexModel", "node", "(II)I"⟩ prog_12_method_92_code 3 (Option.some ClassFile.FieldType.int) : Cond) ∈ mgw := mgw_in (mtin_7 (List.mem_of_getElem? (i := 139) rfl)) (by decide +kernel)
set_option maxRecDepth 20000 in
theorem wd_1418 : (Cond.code ⟨"ClauseIndexModel", "at", "(I)I"⟩ prog_12_method_93_code 2 (Option.some ClassFile.FieldType.int) : Cond) ∈ mgw := mgw_in (mtin_7 (List.mem_of_getElem? (i := 144) rfl)) (by decide +kernel)
set_option maxRecDepth 20000 in
theorem wd_1419 : (Cond.code ⟨"ClauseIndexModel", "byMode", "(III)I"⟩ prog_12_method_94_code 3 (Option.some ClassFile.FieldType.int) : Cond) ∈ mgw := mgw_in (mtin_7 (List.mem_of_getElem? (i := 155) rfl)) (by decide +kernel)
set_option maxRecDepth 20000 in
theorem wd_1420 : (Cond.code ⟨"ClauseIndexModel", "laysVisited", "(III)I"⟩ prog_12_method_95_code 9 (Option.some ClassFile.FieldType.int) : Cond) ∈ mgw := mgw_in (mtin_7 (List.mem_of_getElem? (i := 152) rfl)) (by decide +kernel)
set_option maxRecDepth 20000 in
theorem wd_1421 : (Cond.code ⟨"ClauseIndexModel", "visited", "(II)I"⟩ prog_12_method_96_code 3 (Option.some ClassFile.FieldType.int) : Cond) ∈ mgw := mgw_in (mtin_7 (List.mem_of_getElem? (i := 148) rfl)) (by decide +kernel)
set_option maxRecDepth 20000 in
theorem wd_1422 : (Cond.code ⟨"ClauseIndexModel", "total", "(II)I"⟩ prog_12_method_97_code 5 (Option.some ClassFile.FieldType.int) : Cond) ∈ mgw := mgw_in (mtin_7 (List.mem_of_getElem? (i := 159) rfl)) (by decide +kernel)
set_option maxRecDepth 20000 in
theorem wd_1423 : (Cond.code ⟨"ClauseIndexModel", "candidates", "(II)I"⟩ prog_12_method_98_code 5 (Option.some ClassFile.FieldType.int) : Cond) ∈ mgw := mgw_in (mtin_7 (List.mem_of_getElem? (i := 163) rfl)) (by decide +kernel)
set_option maxRecDepth 20000 in
theorem wd_1424 : (Cond.code ⟨"ClauseIndexModel", "told", "(II)I"⟩ prog_12_method_99_code 4 (Option.some ClassFile.FieldType.int) : Cond) ∈ mgw := mgw_in (mtin_7 (List.mem_of_getElem? (i := 170) rfl)) (by decide +kernel)
set_option maxRecDepth 20000 in
theorem wd_1425 : (Cond.code ⟨"ClauseIndexModel", "forward", "(II)I"⟩ prog_12_method_100_code 5 (Option.some ClassFile.FieldType.int) : Cond) ∈ mgw := mgw_in (mtin_7 (List.mem_of_getElem? (i := 167) rfl)) (by decide +kernel)
set_option maxRecDepth 20000 in
theorem wd_1426 : (Cond.code ⟨"ClauseIndexModel", "backward", "(II)I"⟩ prog_12_method_101_code 5 (Option.some ClassFile.FieldType.int) : Cond) ∈ mgw := mgw_in (mtin_7 (List.mem_of_getElem? (i := 174) rfl)) (by decide +kernel)
set_option maxRecDepth 20000 in
theorem wd_1427 : (Cond.code ⟨"ClauseIndexModel", "isNoneAbove", "(II)Z"⟩ prog_12_method_102_code 4 (Option.some ClassFile.FieldType.boolean) : Cond) ∈ mgw := mgw_in (mtin_7 (List.mem_of_getElem? (i := 186) rfl)) (by decide +kernel)
set_option maxRecDepth 20000 in
theorem wd_1428 : (Cond.code ⟨"ClauseIndexModel", "pairsNow", "(II)I"⟩ prog_12_method_103_code 6 (Option.some ClassFile.FieldType.int) : Cond) ∈ mgw := mgw_in (mtin_7 (List.mem_of_getElem? (i := 182) rfl)) (by decide +kernel)
set_option maxRecDepth 20000 in
theorem wd_1429 : (Cond.code ⟨"ClauseIndexModel", "pairs", "(II)I"⟩ prog_12_method_104_code 3 (Option.some ClassFile.FieldType.int) : Cond) ∈ mgw := mgw_in (mtin_7 (List.mem_of_getElem? (i := 178) rfl)) (by decide +kernel)
set_option maxRecDepth 20000 in
theorem wd_1430 : (Cond.code ⟨"ClauseIndexModel", "floatBits", "(II)I"⟩ prog_12_method_105_code 9 (Option.some ClassFile.FieldType.int) : Cond) ∈ mgw := mgw_in (mtin_7 (List.mem_of_getElem? (i := 193) rfl)) (by decide +kernel)
set_option maxRecDepth 20000 in
theorem wd_1431 : (Cond.code ⟨"ClauseIndexModel", "rate", "(I)I"⟩ prog_12_method_106_code 2 (Option.some ClassFile.FieldType.int) : Cond) ∈ mgw := mgw_in (mtin_7 (List.mem_of_getElem? (i := 190) rfl)) (by decide +kernel)
set_option maxRecDepth 20000 in
theorem wd_1432 : (Cond.code ⟨"ClauseIndexModel", "pairsBy", "(II)I"⟩ prog_12_method_107_code 6 (Option.some ClassFile.FieldType.int) : Cond) ∈ mgw := mgw_in (mtin_7 (List.mem_of_getElem? (i := 203) rfl)) (by decide +kernel)
set_option maxRecDepth 20000 in
theorem wd_1433 : (Cond.code ⟨"ClauseIndexModel", "best", "(II)I"⟩ prog_12_method_108_code 9 (Option.some ClassFile.FieldType.int) : Cond) ∈ mgw := mgw_in (mtin_7 (List.mem_of_getElem? (i := 199) rfl)) (by decide +kernel)
set_option maxRecDepth 20000 in
theorem wd_1434 : (Cond.code ⟨"ClauseIndexModel", "laysCovering", "(I)V"⟩ prog_12_method_109_code 4 (Option.none : Option ClassFile.FieldType) : Cond) ∈ mgw := mgw_in (mtin_7 (List.mem_of_getElem? (i := 215) rfl)) (by decide +kernel)
set_option maxRecDepth 20000 in
theorem wd_1435 : (Cond.code ⟨"ClauseIndexModel", "isMoreGeneral", "(II)Z"⟩ prog_12_method_110_code 3 (Option.some ClassFile.FieldType.boolean) : Cond) ∈ mgw := mgw_in (mtin_7 (List.mem_of_getElem? (i := 227) rfl)) (by decide +kernel)
set_option maxRecDepth 20000 in
theorem wd_1436 : (Cond.code ⟨"ClauseIndexModel", "redundantNow", "(I)I"⟩ prog_12_method_111_code 5 (Option.some ClassFile.FieldType.int) : Cond) ∈ mgw := mgw_in (mtin_7 (List.mem_of_getElem? (i := 211) rfl)) (by decide +kernel)
set_option maxRecDepth 20000 in
theorem wd_1437 : (Cond.code ⟨"ClauseIndexModel", "redundant", "(I)I"⟩ prog_12_method_112_code 2 (Option.some ClassFile.FieldType.int) : Cond) ∈ mgw := mgw_in (mtin_7 (List.mem_of_getElem? (i := 207) rfl)) (by decide +kernel)
set_option maxRecDepth 20000 in
theorem wd_1438 : (Cond.code ⟨"ClauseIndexModel", "clean", "(I)I"⟩ prog_12_method_113_code 5 (Option.some ClassFile.FieldType.int) : Cond) ∈ mgw := mgw_in (mtin_7 (List.mem_of_getElem? (i := 219) rfl)) (by decide +kernel)
set_option maxRecDepth 20000 in
theorem wd_1439 : (Cond.code ⟨"ClauseIndexModel", "tops", "(I)I"⟩ prog_12_method_114_code 6 (Option.some ClassFile.FieldType.int) : Cond) ∈ mgw := mgw_in (mtin_7 (List.mem_of_getElem? (i := 223) rfl)) (by decide +kernel)
set_option maxRecDepth 20000 in
theorem wd_1440 : (Cond.code ⟨"ClauseIndexModel", "laysChains", "()I"⟩ prog_12_method_115_code 4 (Option.some ClassFile.FieldType.int) : Cond) ∈ mgw := mgw_in (mtin_7 (List.mem_of_getElem? (i := 235) rfl)) (by decide +kernel)
set_option maxRecDepth 20000 in
theorem wd_1441 : (Cond.code ⟨"ClauseIndexModel", "chain", "(II)I"⟩ prog_12_method_116_code 7 (Option.some ClassFile.FieldType.int) : Cond) ∈ mgw := mgw_in (mtin_7 (List.mem_of_getElem? (i := 231) rfl)) (by decide +kernel)
set_option maxRecDepth 20000 in
theorem wd_1442 : (Cond.code ⟨"ClauseIndexModel", "parts", "(I)I"⟩ prog_12_method_117_code 6 (Option.some ClassFile.FieldType.int) : Cond) ∈ mgw := mgw_in (mtin_7 (List.mem_of_getElem? (i := 239) rfl)) (by decide +kernel)
set_option maxRecDepth 20000 in
theorem wd_1443 : (Cond.code ⟨"ClauseIndexModel", "doubles", "()I"⟩ prog_12_method_118_code 5 (Option.some ClassFile.FieldType.int) : Cond) ∈ mgw := mgw_in (mtin_8 (List.mem_of_getElem? (i := 3) rfl)) (by decide +kernel)
set_option maxRecDepth 20000 in
theorem wd_1444 : (Cond.code ⟨"ClauseIndexModel", "count", "(I)I"⟩ prog_12_method_119_code 4 (Option.some ClassFile.FieldType.int) : Cond) ∈ mgw := mgw_in (mtin_8 (List.mem_of_getElem? (i := 7) rfl)) (by decide +kernel)
set_option maxRecDepth 20000 in
theorem wd_1445 : (Cond.code ⟨"java/lang/Integer", "bitCount", "(I)I"⟩ prog_13_method_49_code 1 (Option.some ClassFile.FieldType.int) : Cond) ∈ mgw := mgw_in (mtin_3 (List.mem_of_getElem? (i := 51) rfl)) (by decide +kernel)
set_option maxRecDepth 20000 in
theorem wd_1446 : (Cond.code ⟨"java/lang/Math", "floorMod", "(II)I"⟩ prog_14_method_50_code 3 (Option.some ClassFile.FieldType.int) : Cond) ∈ mgw := mgw_in (mtin_2 (List.mem_of_getElem? (i := 193) rfl)) (by decide +kernel)
set_option maxRecDepth 20000 in
theorem wd_1447 : (Cond.code ⟨"java/lang/Math", "max", "(II)I"⟩ prog_14_method_65_code 2 (Option.some ClassFile.FieldType.int) : Cond) ∈ mgw := mgw_in (mtin_1 (List.mem_of_getElem? (i := 232) rfl)) (by decide +kernel)
set_option maxRecDepth 20000 in
theorem wd_1448 : (Cond.code ⟨"java/lang/Math", "min", "(II)I"⟩ prog_14_method_69_code 2 (Option.some ClassFile.FieldType.int) : Cond) ∈ mgw := mgw_in (mtin_2 (List.mem_of_getElem? (i := 108) rfl)) (by decide +kernel)
set_option maxRecDepth 20000 in
theorem wd_1449 : (Cond.laysFinal "ClauseIndex$Clause" "ClauseIndex$Clause" "codes" "[I" : Cond) ∈ mgw := mgw_in (mtin_2 (List.mem_of_getElem? (i := 24) (by decide +kernel))) (by decide +kernel)
set_option maxRecDepth 20000 in
theorem wd_1450 : (Cond.laysFinal "ClauseIndex$Clause" "ClauseIndex$Clause" "depths" "[I" : Cond) ∈ mgw := mgw_in (mtin_2 (List.mem_of_getElem? (i := 26) (by decide +kernel))) (by decide +kernel)
set_option maxRecDepth 20000 in
theorem wd_1451 : (Cond.laysFinal "ClauseIndex$Clause" "ClauseIndex$Clause" "ends" "[I" : Cond) ∈ mgw := mgw_in (mtin_2 (List.mem_of_getElem? (i := 28) (by decide +kernel))) (by decide +kernel)
set_option maxRecDepth 20000 in
theorem wd_1452 : (Cond.laysFinal "ClauseIndex$Clause" "ClauseIndex$Clause" "starts" "[I" : Cond) ∈ mgw := mgw_in (mtin_2 (List.mem_of_getElem? (i := 30) (by decide +kernel))) (by decide +kernel)
set_option maxRecDepth 20000 in
theorem wd_1453 : (Cond.laysFinal "ClauseIndex$Clause" "ClauseIndex$Clause" "measures" "[I" : Cond) ∈ mgw := mgw_in (mtin_2 (List.mem_of_getElem? (i := 32) (by decide +kernel))) (by decide +kernel)
set_option maxRecDepth 20000 in
theorem wd_1454 : (Cond.laysFinal "ClauseIndex$Draft" "ClauseIndex$Draft" "codes" "[I" : Cond) ∈ mgw := mgw_in (mtin_1 (List.mem_of_getElem? (i := 37) (by decide +kernel))) (by decide +kernel)
set_option maxRecDepth 20000 in
theorem wd_1455 : (Cond.laysFinal "ClauseIndex$Draft" "ClauseIndex$Draft" "depths" "[I" : Cond) ∈ mgw := mgw_in (mtin_1 (List.mem_of_getElem? (i := 39) (by decide +kernel))) (by decide +kernel)
set_option maxRecDepth 20000 in
theorem wd_1456 : (Cond.lays "ClauseIndex$Draft" "ClauseIndex$Draft" "size" "I" : Cond) ∈ mgw := mgw_in (mtin_1 (List.mem_of_getElem? (i := 41) (by decide +kernel))) (by decide +kernel)
set_option maxRecDepth 20000 in
theorem wd_1457 : (Cond.laysFinal "ClauseIndex$History" "ClauseIndex$History" "states" "[LClauseIndex$State;" : Cond) ∈ mgw := mgw_in (mtin_1 (List.mem_of_getElem? (i := 184) (by decide +kernel))) (by decide +kernel)
set_option maxRecDepth 20000 in
theorem wd_1458 : (Cond.lays "ClauseIndex$History" "ClauseIndex$History" "next" "I" : Cond) ∈ mgw := mgw_in (mtin_1 (List.mem_of_getElem? (i := 186) (by decide +kernel))) (by decide +kernel)
set_option maxRecDepth 20000 in
theorem wd_1459 : (Cond.lays "ClauseIndex$History" "ClauseIndex$History" "size" "I" : Cond) ∈ mgw := mgw_in (mtin_1 (List.mem_of_getElem? (i := 188) (by decide +kernel))) (by decide +kernel)
set_option maxRecDepth 20000 in
theorem wd_1460 : (Cond.laysFinal "ClauseIndex$Matcher" "ClauseIndex$Matcher" "row" "[I" : Cond) ∈ mgw := mgw_in (mtin_1 (List.mem_of_getElem? (i := 82) (by decide +kernel))) (by decide +kernel)
set_option maxRecDepth 20000 in
theorem wd_1461 : (Cond.laysFinal "ClauseIndex$Matcher" "ClauseIndex$Matcher" "terms" "[I" : Cond) ∈ mgw := mgw_in (mtin_1 (List.mem_of_getElem? (i := 84) (by decide +kernel))) (by decide +kernel)
set_option maxRecDepth 20000 in
theorem wd_1462 : (Cond.lays "ClauseIndex$Matcher" "ClauseIndex$Matcher" "last" "I" : Cond) ∈ mgw := mgw_in (mtin_1 (List.mem_of_getElem? (i := 86) (by decide +kernel))) (by decide +kernel)
set_option maxRecDepth 20000 in
theorem wd_1463 : (Cond.lays "ClauseIndex$Matcher" "ClauseIndex$Matcher" "enough" "I" : Cond) ∈ mgw := mgw_in (mtin_1 (List.mem_of_getElem? (i := 88) (by decide +kernel))) (by decide +kernel)
set_option maxRecDepth 20000 in
theorem wd_1464 : (Cond.lays "ClauseIndex$Matcher" "ClauseIndex$Matcher" "found" "I" : Cond) ∈ mgw := mgw_in (mtin_1 (List.mem_of_getElem? (i := 90) (by decide +kernel))) (by decide +kernel)
set_option maxRecDepth 20000 in
theorem wd_1465 : (Cond.lays "ClauseIndex$Matcher" "ClauseIndex$Matcher" "put" "I" : Cond) ∈ mgw := mgw_in (mtin_1 (List.mem_of_getElem? (i := 92) (by decide +kernel))) (by decide +kernel)
set_option maxRecDepth 20000 in
theorem wd_1466 : (Cond.lays "ClauseIndex$Matcher" "ClauseIndex$Matcher" "taken" "I" : Cond) ∈ mgw := mgw_in (mtin_1 (List.mem_of_getElem? (i := 94) (by decide +kernel))) (by decide +kernel)
set_option maxRecDepth 20000 in
theorem wd_1467 : (Cond.lays "ClauseIndex$Matcher" "ClauseIndex$Matcher" "apart" "Z" : Cond) ∈ mgw := mgw_in (mtin_1 (List.mem_of_getElem? (i := 96) (by decide +kernel))) (by decide +kernel)
set_option maxRecDepth 20000 in
theorem wd_1468 : (Cond.lays "ClauseIndex$Matcher" "ClauseIndex$Matcher" "renaming" "Z" : Cond) ∈ mgw := mgw_in (mtin_1 (List.mem_of_getElem? (i := 98) (by decide +kernel))) (by decide +kernel)
set_option maxRecDepth 20000 in
theorem wd_1469 : (Cond.laysFinal "ClauseIndex$Parting" "ClauseIndex$Parting" "notAbove" "[[I" : Cond) ∈ mgw := mgw_in (mtin_1 (List.mem_of_getElem? (i := 141) (by decide +kernel))) (by decide +kernel)
set_option maxRecDepth 20000 in
theorem wd_1470 : (Cond.laysFinal "ClauseIndex$Parting" "ClauseIndex$Parting" "left" "[I" : Cond) ∈ mgw := mgw_in (mtin_1 (List.mem_of_getElem? (i := 143) (by decide +kernel))) (by decide +kernel)
set_option maxRecDepth 20000 in
theorem wd_1471 : (Cond.laysFinal "ClauseIndex$Parting" "ClauseIndex$Parting" "values" "[I" : Cond) ∈ mgw := mgw_in (mtin_1 (List.mem_of_getElem? (i := 145) (by decide +kernel))) (by decide +kernel)
set_option maxRecDepth 20000 in
theorem wd_1472 : (Cond.laysFinal "ClauseIndex$Parting" "ClauseIndex$Parting" "powers" "[I" : Cond) ∈ mgw := mgw_in (mtin_1 (List.mem_of_getElem? (i := 147) (by decide +kernel))) (by decide +kernel)
set_option maxRecDepth 20000 in
theorem wd_1473 : (Cond.lays "ClauseIndex$Parting" "ClauseIndex$Parting" "leftByTwo" "I" : Cond) ∈ mgw := mgw_in (mtin_1 (List.mem_of_getElem? (i := 149) (by decide +kernel))) (by decide +kernel)
set_option maxRecDepth 20000 in
theorem wd_1474 : (Cond.lays "ClauseIndex$Parting" "ClauseIndex$Parting" "lowerOfTwo" "I" : Cond) ∈ mgw := mgw_in (mtin_1 (List.mem_of_getElem? (i := 151) (by decide +kernel))) (by decide +kernel)
set_option maxRecDepth 20000 in
theorem wd_1475 : (Cond.lays "ClauseIndex$Parting" "ClauseIndex$Parting" "higherOfTwo" "I" : Cond) ∈ mgw := mgw_in (mtin_1 (List.mem_of_getElem? (i := 153) (by decide +kernel))) (by decide +kernel)
set_option maxRecDepth 20000 in
theorem wd_1476 : (Cond.laysFinal "ClauseIndex$Reader" "ClauseIndex$Reader" "bytes" "[I" : Cond) ∈ mgw := mgw_in (mtin_1 (List.mem_of_getElem? (i := 52) (by decide +kernel))) (by decide +kernel)
set_option maxRecDepth 20000 in
theorem wd_1477 : (Cond.laysFinal "ClauseIndex$Reader" "ClauseIndex$Reader" "draft" "LClauseIndex$Draft;" : Cond) ∈ mgw := mgw_in (mtin_1 (List.mem_of_getElem? (i := 54) (by decide +kernel))) (by decide +kernel)
set_option maxRecDepth 20000 in
theorem wd_1478 : (Cond.lays "ClauseIndex$Reader" "ClauseIndex$Reader" "size" "I" : Cond) ∈ mgw := mgw_in (mtin_1 (List.mem_of_getElem? (i := 56) (by decide +kernel))) (by decide +kernel)
set_option maxRecDepth 20000 in
theorem wd_1479 : (Cond.lays "ClauseIndex$Reader" "ClauseIndex$Reader" "end" "I" : Cond) ∈ mgw := mgw_in (mtin_1 (List.mem_of_getElem? (i := 58) (by decide +kernel))) (by decide +kernel)
set_option maxRecDepth 20000 in
theorem wd_1480 : (Cond.lays "ClauseIndex$Reader" "ClauseIndex$Reader" "here" "I" : Cond) ∈ mgw := mgw_in (mtin_1 (List.mem_of_getElem? (i := 60) (by decide +kernel))) (by decide +kernel)
set_option maxRecDepth 20000 in
theorem wd_1481 : (Cond.lays "ClauseIndex$Reader" "ClauseIndex$Reader" "fault" "I" : Cond) ∈ mgw := mgw_in (mtin_1 (List.mem_of_getElem? (i := 62) (by decide +kernel))) (by decide +kernel)
set_option maxRecDepth 20000 in
theorem wd_1482 : (Cond.lays "ClauseIndex$Reader" "ClauseIndex$Reader" "place" "I" : Cond) ∈ mgw := mgw_in (mtin_1 (List.mem_of_getElem? (i := 64) (by decide +kernel))) (by decide +kernel)
set_option maxRecDepth 20000 in
theorem wd_1483 : (Cond.laysFinal "ClauseIndex$Relation" "ClauseIndex$Relation" "covered" "[I" : Cond) ∈ mgw := mgw_in (mtin_1 (List.mem_of_getElem? (i := 203) (by decide +kernel))) (by decide +kernel)
set_option maxRecDepth 20000 in
theorem wd_1484 : (Cond.laysFinal "ClauseIndex$Relation" "ClauseIndex$Relation" "coverers" "[I" : Cond) ∈ mgw := mgw_in (mtin_1 (List.mem_of_getElem? (i := 205) (by decide +kernel))) (by decide +kernel)
set_option maxRecDepth 20000 in
theorem wd_1485 : (Cond.laysFinal "ClauseIndex$Relation" "ClauseIndex$Relation" "lengths" "[I" : Cond) ∈ mgw := mgw_in (mtin_1 (List.mem_of_getElem? (i := 207) (by decide +kernel))) (by decide +kernel)
set_option maxRecDepth 20000 in
theorem wd_1486 : (Cond.laysFinal "ClauseIndex$Relation" "ClauseIndex$Relation" "row" "[I" : Cond) ∈ mgw := mgw_in (mtin_1 (List.mem_of_getElem? (i := 209) (by decide +kernel))) (by decide +kernel)
set_option maxRecDepth 20000 in
theorem wd_1487 : (Cond.lays "ClauseIndex$Relation" "ClauseIndex$Relation" "all" "I" : Cond) ∈ mgw := mgw_in (mtin_1 (List.mem_of_getElem? (i := 211) (by decide +kernel))) (by decide +kernel)
set_option maxRecDepth 20000 in
theorem wd_1488 : (Cond.lays "ClauseIndex$Relation" "ClauseIndex$Relation" "known" "Z" : Cond) ∈ mgw := mgw_in (mtin_1 (List.mem_of_getElem? (i := 213) (by decide +kernel))) (by decide +kernel)
set_option maxRecDepth 20000 in
theorem wd_1489 : (Cond.laysFinal "ClauseIndex$State" "ClauseIndex$State" "kept" "[LClauseIndex$Clause;" : Cond) ∈ mgw := mgw_in (mtin_1 (List.mem_of_getElem? (i := 174) (by decide +kernel))) (by decide +kernel)
set_option maxRecDepth 20000 in
theorem wd_1490 : (Cond.laysFinal "ClauseIndex$State" "ClauseIndex$State" "features" "[I" : Cond) ∈ mgw := mgw_in (mtin_1 (List.mem_of_getElem? (i := 176) (by decide +kernel))) (by decide +kernel)
set_option maxRecDepth 20000 in
theorem wd_1491 : (Cond.lays "ClauseIndex$State" "ClauseIndex$State" "laid" "I" : Cond) ∈ mgw := mgw_in (mtin_1 (List.mem_of_getElem? (i := 178) (by decide +kernel))) (by decide +kernel)
set_option maxRecDepth 20000 in
theorem wd_1492 : (Cond.laysFinal "ClauseIndex$Tree" "ClauseIndex$Tree" "levels" "[I" : Cond) ∈ mgw := mgw_in (mtin_1 (List.mem_of_getElem? (i := 113) (by decide +kernel))) (by decide +kernel)
set_option maxRecDepth 20000 in
theorem wd_1493 : (Cond.laysFinal "ClauseIndex$Tree" "ClauseIndex$Tree" "values" "[I" : Cond) ∈ mgw := mgw_in (mtin_1 (List.mem_of_getElem? (i := 115) (by decide +kernel))) (by decide +kernel)
set_option maxRecDepth 20000 in
theorem wd_1494 : (Cond.laysFinal "ClauseIndex$Tree" "ClauseIndex$Tree" "children" "[I" : Cond) ∈ mgw := mgw_in (mtin_1 (List.mem_of_getElem? (i := 117) (by decide +kernel))) (by decide +kernel)
set_option maxRecDepth 20000 in
theorem wd_1495 : (Cond.laysFinal "ClauseIndex$Tree" "ClauseIndex$Tree" "members" "[I" : Cond) ∈ mgw := mgw_in (mtin_1 (List.mem_of_getElem? (i := 119) (by decide +kernel))) (by decide +kernel)
set_option maxRecDepth 20000 in
theorem wd_1496 : (Cond.lays "ClauseIndex$Tree" "ClauseIndex$Tree" "size" "I" : Cond) ∈ mgw := mgw_in (mtin_1 (List.mem_of_getElem? (i := 121) (by decide +kernel))) (by decide +kernel)
set_option maxRecDepth 20000 in
theorem wd_1497 : (Cond.lays "ClauseIndex$Tree" "ClauseIndex$Tree" "reached" "I" : Cond) ∈ mgw := mgw_in (mtin_1 (List.mem_of_getElem? (i := 123) (by decide +kernel))) (by decide +kernel)
set_option maxRecDepth 20000 in
theorem wd_1498 : (Cond.laysFinal "ClauseIndex" "ClauseIndex" "reader" "LClauseIndex$Reader;" : Cond) ∈ mgw := mgw_in (mtin_2 (List.mem_of_getElem? (i := 49) (by decide +kernel))) (by decide +kernel)
set_option maxRecDepth 20000 in
theorem wd_1499 : (Cond.laysFinal "ClauseIndex" "ClauseIndex" "matcher" "LClauseIndex$Matcher;" : Cond) ∈ mgw := mgw_in (mtin_2 (List.mem_of_getElem? (i := 51) (by decide +kernel))) (by decide +kernel)
set_option maxRecDepth 20000 in
theorem wd_1500 : (Cond.laysFinal "ClauseIndex" "ClauseIndex" "tree" "LClauseIndex$Tree;" : Cond) ∈ mgw := mgw_in (mtin_2 (List.mem_of_getElem? (i := 53) (by decide +kernel))) (by decide +kernel)
set_option maxRecDepth 20000 in
theorem wd_1501 : (Cond.laysFinal "ClauseIndex" "ClauseIndex" "parting" "LClauseIndex$Parting;" : Cond) ∈ mgw := mgw_in (mtin_2 (List.mem_of_getElem? (i := 55) (by decide +kernel))) (by decide +kernel)
set_option maxRecDepth 20000 in
theorem wd_1502 : (Cond.laysFinal "ClauseIndex" "ClauseIndex" "history" "LClauseIndex$History;" : Cond) ∈ mgw := mgw_in (mtin_2 (List.mem_of_getElem? (i := 57) (by decide +kernel))) (by decide +kernel)
set_option maxRecDepth 20000 in
theorem wd_1503 : (Cond.laysFinal "ClauseIndex" "ClauseIndex" "bySets" "LClauseIndex$Relation;" : Cond) ∈ mgw := mgw_in (mtin_2 (List.mem_of_getElem? (i := 59) (by decide +kernel))) (by decide +kernel)
set_option maxRecDepth 20000 in
theorem wd_1504 : (Cond.laysFinal "ClauseIndex" "ClauseIndex" "byNumbers" "LClauseIndex$Relation;" : Cond) ∈ mgw := mgw_in (mtin_2 (List.mem_of_getElem? (i := 61) (by decide +kernel))) (by decide +kernel)
set_option maxRecDepth 20000 in
theorem wd_1505 : (Cond.laysFinal "ClauseIndex" "ClauseIndex" "now" "LClauseIndex$State;" : Cond) ∈ mgw := mgw_in (mtin_2 (List.mem_of_getElem? (i := 63) (by decide +kernel))) (by decide +kernel)
set_option maxRecDepth 20000 in
theorem wd_1506 : (Cond.laysFinal "ClauseIndex" "ClauseIndex" "pictures" "[LClauseIndex$State;" : Cond) ∈ mgw := mgw_in (mtin_2 (List.mem_of_getElem? (i := 65) (by decide +kernel))) (by decide +kernel)
set_option maxRecDepth 20000 in
theorem wd_1507 : (Cond.laysFinal "ClauseIndex" "ClauseIndex" "picturedQueries" "[LClauseIndex$Clause;" : Cond) ∈ mgw := mgw_in (mtin_2 (List.mem_of_getElem? (i := 67) (by decide +kernel))) (by decide +kernel)
set_option maxRecDepth 20000 in
theorem wd_1508 : (Cond.laysFinal "ClauseIndex" "ClauseIndex" "wanted" "[I" : Cond) ∈ mgw := mgw_in (mtin_2 (List.mem_of_getElem? (i := 69) (by decide +kernel))) (by decide +kernel)
set_option maxRecDepth 20000 in
theorem wd_1509 : (Cond.lays "ClauseIndex" "ClauseIndex" "work" "LClauseIndex$Draft;" : Cond) ∈ mgw := mgw_in (mtin_2 (List.mem_of_getElem? (i := 71) (by decide +kernel))) (by decide +kernel)
set_option maxRecDepth 20000 in
theorem wd_1510 : (Cond.lays "ClauseIndex" "ClauseIndex" "spare" "LClauseIndex$Draft;" : Cond) ∈ mgw := mgw_in (mtin_2 (List.mem_of_getElem? (i := 73) (by decide +kernel))) (by decide +kernel)
set_option maxRecDepth 20000 in
theorem wd_1511 : (Cond.lays "ClauseIndex" "ClauseIndex" "asked" "LClauseIndex$Clause;" : Cond) ∈ mgw := mgw_in (mtin_2 (List.mem_of_getElem? (i := 75) (by decide +kernel))) (by decide +kernel)
set_option maxRecDepth 20000 in
theorem wd_1512 : (Cond.lays "ClauseIndexModel" "ClauseIndexModel" "thrown" "I" : Cond) ∈ mgw := mgw_in (mtin_5 (List.mem_of_getElem? (i := 160) (by decide +kernel))) (by decide +kernel)
set_option maxRecDepth 20000 in
theorem wd_1513 : (Cond.laysFinal "ClauseIndexModel" "ClauseIndexModel" "all" "[I" : Cond) ∈ mgw := mgw_in (mtin_5 (List.mem_of_getElem? (i := 162) (by decide +kernel))) (by decide +kernel)
set_option maxRecDepth 20000 in
theorem wd_1514 : (Cond.laysFinal "ClauseIndexModel" "ClauseIndexModel" "deeds" "[I" : Cond) ∈ mgw := mgw_in (mtin_5 (List.mem_of_getElem? (i := 164) (by decide +kernel))) (by decide +kernel)
set_option maxRecDepth 20000 in
theorem wd_1515 : (Cond.lays "ClauseIndexModel" "ClauseIndexModel" "deedMany" "I" : Cond) ∈ mgw := mgw_in (mtin_5 (List.mem_of_getElem? (i := 166) (by decide +kernel))) (by decide +kernel)
set_option maxRecDepth 20000 in
theorem wd_1516 : (Cond.laysFinal "ClauseIndexModel" "ClauseIndexModel" "hasImage" "[Z" : Cond) ∈ mgw := mgw_in (mtin_5 (List.mem_of_getElem? (i := 168) (by decide +kernel))) (by decide +kernel)
set_option maxRecDepth 20000 in
theorem wd_1517 : (Cond.laysFinal "ClauseIndexModel" "ClauseIndexModel" "tape" "[I" : Cond) ∈ mgw := mgw_in (mtin_5 (List.mem_of_getElem? (i := 170) (by decide +kernel))) (by decide +kernel)
set_option maxRecDepth 20000 in
theorem wd_1518 : (Cond.laysFinal "ClauseIndexModel" "ClauseIndexModel" "read" "[I" : Cond) ∈ mgw := mgw_in (mtin_5 (List.mem_of_getElem? (i := 172) (by decide +kernel))) (by decide +kernel)
set_option maxRecDepth 20000 in
theorem wd_1519 : (Cond.lays "ClauseIndexModel" "ClauseIndexModel" "taped" "I" : Cond) ∈ mgw := mgw_in (mtin_5 (List.mem_of_getElem? (i := 174) (by decide +kernel))) (by decide +kernel)
set_option maxRecDepth 20000 in
theorem wd_1520 : (Cond.lays "ClauseIndexModel" "ClauseIndexModel" "size" "I" : Cond) ∈ mgw := mgw_in (mtin_5 (List.mem_of_getElem? (i := 176) (by decide +kernel))) (by decide +kernel)
set_option maxRecDepth 20000 in
theorem wd_1521 : (Cond.lays "ClauseIndexModel" "ClauseIndexModel" "at" "I" : Cond) ∈ mgw := mgw_in (mtin_5 (List.mem_of_getElem? (i := 178) (by decide +kernel))) (by decide +kernel)
set_option maxRecDepth 20000 in
theorem wd_1522 : (Cond.lays "ClauseIndexModel" "ClauseIndexModel" "readMany" "I" : Cond) ∈ mgw := mgw_in (mtin_5 (List.mem_of_getElem? (i := 180) (by decide +kernel))) (by decide +kernel)
set_option maxRecDepth 20000 in
theorem wd_1523 : (Cond.lays "ClauseIndexModel" "ClauseIndexModel" "depth" "I" : Cond) ∈ mgw := mgw_in (mtin_5 (List.mem_of_getElem? (i := 182) (by decide +kernel))) (by decide +kernel)
set_option maxRecDepth 20000 in
theorem wd_1524 : (Cond.lays "ClauseIndexModel" "ClauseIndexModel" "wrong" "I" : Cond) ∈ mgw := mgw_in (mtin_5 (List.mem_of_getElem? (i := 184) (by decide +kernel))) (by decide +kernel)
set_option maxRecDepth 20000 in
theorem wd_1525 : (Cond.lays "ClauseIndexModel" "ClauseIndexModel" "wrongAt" "I" : Cond) ∈ mgw := mgw_in (mtin_5 (List.mem_of_getElem? (i := 186) (by decide +kernel))) (by decide +kernel)
set_option maxRecDepth 20000 in
theorem wd_1526 : (Cond.lays "ClauseIndexModel" "ClauseIndexModel" "faultKind" "I" : Cond) ∈ mgw := mgw_in (mtin_5 (List.mem_of_getElem? (i := 188) (by decide +kernel))) (by decide +kernel)
set_option maxRecDepth 20000 in
theorem wd_1527 : (Cond.lays "ClauseIndexModel" "ClauseIndexModel" "faultPlace" "I" : Cond) ∈ mgw := mgw_in (mtin_5 (List.mem_of_getElem? (i := 190) (by decide +kernel))) (by decide +kernel)
set_option maxRecDepth 20000 in
theorem wd_1528 : (Cond.laysFinal "ClauseIndexModel" "ClauseIndexModel" "put" "[I" : Cond) ∈ mgw := mgw_in (mtin_5 (List.mem_of_getElem? (i := 192) (by decide +kernel))) (by decide +kernel)
set_option maxRecDepth 20000 in
theorem wd_1529 : (Cond.lays "ClauseIndexModel" "ClauseIndexModel" "putMany" "I" : Cond) ∈ mgw := mgw_in (mtin_5 (List.mem_of_getElem? (i := 194) (by decide +kernel))) (by decide +kernel)
set_option maxRecDepth 20000 in
theorem wd_1530 : (Cond.lays "ClauseIndexModel" "ClauseIndexModel" "putTimes" "I" : Cond) ∈ mgw := mgw_in (mtin_5 (List.mem_of_getElem? (i := 196) (by decide +kernel))) (by decide +kernel)
set_option maxRecDepth 20000 in
theorem wd_1531 : (Cond.laysFinal "ClauseIndexModel" "ClauseIndexModel" "boundAt" "[I" : Cond) ∈ mgw := mgw_in (mtin_5 (List.mem_of_getElem? (i := 198) (by decide +kernel))) (by decide +kernel)
set_option maxRecDepth 20000 in
theorem wd_1532 : (Cond.laysFinal "ClauseIndexModel" "ClauseIndexModel" "rowNow" "[I" : Cond) ∈ mgw := mgw_in (mtin_5 (List.mem_of_getElem? (i := 200) (by decide +kernel))) (by decide +kernel)
set_option maxRecDepth 20000 in
theorem wd_1533 : (Cond.laysFinal "ClauseIndexModel" "ClauseIndexModel" "rowFirst" "[I" : Cond) ∈ mgw := mgw_in (mtin_5 (List.mem_of_getElem? (i := 202) (by decide +kernel))) (by decide +kernel)
set_option maxRecDepth 20000 in
theorem wd_1534 : (Cond.laysFinal "ClauseIndexModel" "ClauseIndexModel" "boundFirst" "[I" : Cond) ∈ mgw := mgw_in (mtin_5 (List.mem_of_getElem? (i := 204) (by decide +kernel))) (by decide +kernel)
set_option maxRecDepth 20000 in
theorem wd_1535 : (Cond.lays "ClauseIndexModel" "ClauseIndexModel" "wayMany" "I" : Cond) ∈ mgw := mgw_in (mtin_5 (List.mem_of_getElem? (i := 206) (by decide +kernel))) (by decide +kernel)
set_option maxRecDepth 20000 in
theorem wd_1536 : (Cond.lays "ClauseIndexModel" "ClauseIndexModel" "mostWays" "I" : Cond) ∈ mgw := mgw_in (mtin_5 (List.mem_of_getElem? (i := 208) (by decide +kernel))) (by decide +kernel)
set_option maxRecDepth 20000 in
theorem wd_1537 : (Cond.lays "ClauseIndexModel" "ClauseIndexModel" "renamedMany" "I" : Cond) ∈ mgw := mgw_in (mtin_5 (List.mem_of_getElem? (i := 210) (by decide +kernel))) (by decide +kernel)
set_option maxRecDepth 20000 in
theorem wd_1538 : (Cond.lays "ClauseIndexModel" "ClauseIndexModel" "usedOnes" "I" : Cond) ∈ mgw := mgw_in (mtin_5 (List.mem_of_getElem? (i := 212) (by decide +kernel))) (by decide +kernel)
set_option maxRecDepth 20000 in
theorem wd_1539 : (Cond.lays "ClauseIndexModel" "ClauseIndexModel" "allowed" "I" : Cond) ∈ mgw := mgw_in (mtin_5 (List.mem_of_getElem? (i := 214) (by decide +kernel))) (by decide +kernel)
set_option maxRecDepth 20000 in
theorem wd_1540 : (Cond.lays "ClauseIndexModel" "ClauseIndexModel" "ofA" "I" : Cond) ∈ mgw := mgw_in (mtin_5 (List.mem_of_getElem? (i := 216) (by decide +kernel))) (by decide +kernel)
set_option maxRecDepth 20000 in
theorem wd_1541 : (Cond.lays "ClauseIndexModel" "ClauseIndexModel" "ofB" "I" : Cond) ∈ mgw := mgw_in (mtin_5 (List.mem_of_getElem? (i := 218) (by decide +kernel))) (by decide +kernel)
set_option maxRecDepth 20000 in
theorem wd_1542 : (Cond.lays "ClauseIndexModel" "ClauseIndexModel" "ofMode" "I" : Cond) ∈ mgw := mgw_in (mtin_5 (List.mem_of_getElem? (i := 220) (by decide +kernel))) (by decide +kernel)
set_option maxRecDepth 20000 in
theorem wd_1543 : (Cond.laysFinal "ClauseIndexModel" "ClauseIndexModel" "termNow" "[I" : Cond) ∈ mgw := mgw_in (mtin_5 (List.mem_of_getElem? (i := 222) (by decide +kernel))) (by decide +kernel)
set_option maxRecDepth 20000 in
theorem wd_1544 : (Cond.laysFinal "ClauseIndexModel" "ClauseIndexModel" "putWas" "[I" : Cond) ∈ mgw := mgw_in (mtin_5 (List.mem_of_getElem? (i := 224) (by decide +kernel))) (by decide +kernel)
set_option maxRecDepth 20000 in
theorem wd_1545 : (Cond.laysFinal "ClauseIndexModel" "ClauseIndexModel" "values" "[I" : Cond) ∈ mgw := mgw_in (mtin_5 (List.mem_of_getElem? (i := 226) (by decide +kernel))) (by decide +kernel)
set_option maxRecDepth 20000 in
theorem wd_1546 : (Cond.laysFinal "ClauseIndexModel" "ClauseIndexModel" "powers" "[I" : Cond) ∈ mgw := mgw_in (mtin_5 (List.mem_of_getElem? (i := 228) (by decide +kernel))) (by decide +kernel)
set_option maxRecDepth 20000 in
theorem wd_1547 : (Cond.laysFinal "ClauseIndexModel" "ClauseIndexModel" "chosen" "[I" : Cond) ∈ mgw := mgw_in (mtin_5 (List.mem_of_getElem? (i := 230) (by decide +kernel))) (by decide +kernel)
set_option maxRecDepth 20000 in
theorem wd_1548 : (Cond.laysFinal "ClauseIndexModel" "ClauseIndexModel" "sorted" "[I" : Cond) ∈ mgw := mgw_in (mtin_5 (List.mem_of_getElem? (i := 232) (by decide +kernel))) (by decide +kernel)
set_option maxRecDepth 20000 in
theorem wd_1549 : (Cond.laysFinal "ClauseIndexModel" "ClauseIndexModel" "above" "[I" : Cond) ∈ mgw := mgw_in (mtin_5 (List.mem_of_getElem? (i := 234) (by decide +kernel))) (by decide +kernel)
set_option maxRecDepth 20000 in
theorem wd_1550 : (Cond.laysFinal "ClauseIndexModel" "ClauseIndexModel" "deep" "[I" : Cond) ∈ mgw := mgw_in (mtin_5 (List.mem_of_getElem? (i := 236) (by decide +kernel))) (by decide +kernel)
set_option maxRecDepth 20000 in
theorem wd_1551 : (Cond.laysFinal "ClauseIndexModel" "ClauseIndexModel" "valueAt" "[I" : Cond) ∈ mgw := mgw_in (mtin_5 (List.mem_of_getElem? (i := 238) (by decide +kernel))) (by decide +kernel)
set_option maxRecDepth 20000 in
theorem wd_1552 : (Cond.laysFinal "ClauseIndexModel" "ClauseIndexModel" "belowMany" "[I" : Cond) ∈ mgw := mgw_in (mtin_6 (List.mem_of_getElem? (i := 0) (by decide +kernel))) (by decide +kernel)
set_option maxRecDepth 20000 in
theorem wd_1553 : (Cond.laysFinal "ClauseIndexModel" "ClauseIndexModel" "clauseMany" "[I" : Cond) ∈ mgw := mgw_in (mtin_6 (List.mem_of_getElem? (i := 2) (by decide +kernel))) (by decide +kernel)
set_option maxRecDepth 20000 in
theorem wd_1554 : (Cond.laysFinal "ClauseIndexModel" "ClauseIndexModel" "nodeOf" "[I" : Cond) ∈ mgw := mgw_in (mtin_6 (List.mem_of_getElem? (i := 4) (by decide +kernel))) (by decide +kernel)
set_option maxRecDepth 20000 in
theorem wd_1555 : (Cond.laysFinal "ClauseIndexModel" "ClauseIndexModel" "pathNow" "[I" : Cond) ∈ mgw := mgw_in (mtin_6 (List.mem_of_getElem? (i := 6) (by decide +kernel))) (by decide +kernel)
set_option maxRecDepth 20000 in
theorem wd_1556 : (Cond.laysFinal "ClauseIndexModel" "ClauseIndexModel" "isVisited" "[Z" : Cond) ∈ mgw := mgw_in (mtin_6 (List.mem_of_getElem? (i := 8) (by decide +kernel))) (by decide +kernel)
set_option maxRecDepth 20000 in
theorem wd_1557 : (Cond.lays "ClauseIndexModel" "ClauseIndexModel" "nodeMany" "I" : Cond) ∈ mgw := mgw_in (mtin_6 (List.mem_of_getElem? (i := 10) (by decide +kernel))) (by decide +kernel)
set_option maxRecDepth 20000 in
theorem wd_1558 : (Cond.laysFinal "ClauseIndexModel" "ClauseIndexModel" "isCovering" "[Z" : Cond) ∈ mgw := mgw_in (mtin_6 (List.mem_of_getElem? (i := 12) (by decide +kernel))) (by decide +kernel)
set_option maxRecDepth 20000 in
theorem wd_1559 : (Cond.laysFinal "ClauseIndexModel" "ClauseIndexModel" "chainFrom" "[I" : Cond) ∈ mgw := mgw_in (mtin_6 (List.mem_of_getElem? (i := 14) (by decide +kernel))) (by decide +kernel)
theorem wd_objc : (Cond.code objectInit ⟨#[0xb1]⟩ 1 none : Cond) ∈ mgw := mgw_in (mtin_1 (List.mem_of_getElem? (i := 21) (by decide +kernel))) (by decide +kernel)
set_option maxRecDepth 20000 in
theorem inw_1 : ∀ w ∈ u_ws RX0 TX0 5, w ∈ mgw := show ∀ w ∈ ([Cond.laysFinal "ClauseIndex$Clause" "ClauseIndex$Clause" "codes" "[I", Cond.laysFinal "ClauseIndex$Clause" "ClauseIndex$Clause" "depths" "[I", Cond.laysFinal "ClauseIndex$Clause" "ClauseIndex$Clause" "ends" "[I", Cond.laysFinal "ClauseIndex$Clause" "ClauseIndex$Clause" "starts" "[I", Cond.laysFinal "ClauseIndex$Clause" "ClauseIndex$Clause" "measures" "[I"] : List Cond), w ∈ mgw from List.forall_mem_cons.mpr ⟨wd_1449, List.forall_mem_cons.mpr ⟨wd_1450, List.forall_mem_cons.mpr ⟨wd_1451, List.forall_mem_cons.mpr ⟨wd_1452, List.forall_mem_cons.mpr ⟨wd_1453, fun _ h => absurd h List.not_mem_nil⟩⟩⟩⟩⟩
theorem df_1 : ∀ k, k < 5 → defaultValue (tyX0 k) = bif misr (mty 1 k) then .null else .int 0 := by decide +kernel
set_option maxRecDepth 20000 in
theorem inw_2 : ∀ w ∈ u_ws RX1 TX1 3, w ∈ mgw := show ∀ w ∈ ([Cond.laysFinal "ClauseIndex$Draft" "ClauseIndex$Draft" "codes" "[I", Cond.laysFinal "ClauseIndex$Draft" "ClauseIndex$Draft" "depths" "[I", Cond.lays "ClauseIndex$Draft" "ClauseIndex$Draft" "size" "I"] : List Cond), w ∈ mgw from List.forall_mem_cons.mpr ⟨wd_1454, List.forall_mem_cons.mpr ⟨wd_1455, List.forall_mem_cons.mpr ⟨wd_1456, fun _ h => absurd h List.not_mem_nil⟩⟩⟩
theorem df_2 : ∀ k, k < 3 → defaultValue (tyX1 k) = bif misr (mty 2 k) then .null else .int 0 := by decide +kernel
set_option maxRecDepth 20000 in
theorem inw_3 : ∀ w ∈ u_ws RX2 TX2 3, w ∈ mgw := show ∀ w ∈ ([Cond.laysFinal "ClauseIndex$History" "ClauseIndex$History" "states" "[LClauseIndex$State;", Cond.lays "ClauseIndex$History" "ClauseIndex$History" "next" "I", Cond.lays "ClauseIndex$History" "ClauseIndex$History" "size" "I"] : List Cond), w ∈ mgw from List.forall_mem_cons.mpr ⟨wd_1457, List.forall_mem_cons.mpr ⟨wd_1458, List.forall_mem_cons.mpr ⟨wd_1459, fun _ h => absurd h List.not_mem_nil⟩⟩⟩
theorem df_3 : ∀ k, k < 3 → defaultValue (tyX2 k) = bif misr (mty 3 k) then .null else .int 0 := by decide +kernel
set_option maxRecDepth 20000 in
theorem inw_4 : ∀ w ∈ u_ws RX3 TX3 9, w ∈ mgw := show ∀ w ∈ ([Cond.laysFinal "ClauseIndex$Matcher" "ClauseIndex$Matcher" "row" "[I", Cond.laysFinal "ClauseIndex$Matcher" "ClauseIndex$Matcher" "terms" "[I", Cond.lays "ClauseIndex$Matcher" "ClauseIndex$Matcher" "last" "I", Cond.lays "ClauseIndex$Matcher" "ClauseIndex$Matcher" "enough" "I", Cond.lays "ClauseIndex$Matcher" "ClauseIndex$Matcher" "found" "I", Cond.lays "ClauseIndex$Matcher" "ClauseIndex$Matcher" "put" "I", Cond.lays "ClauseIndex$Matcher" "ClauseIndex$Matcher" "taken" "I", Cond.lays "ClauseIndex$Matcher" "ClauseIndex$Matcher" "apart" "Z", Cond.lays "ClauseIndex$Matcher" "ClauseIndex$Matcher" "renaming" "Z"] : List Cond), w ∈ mgw from List.forall_mem_cons.mpr ⟨wd_1460, List.forall_mem_cons.mpr ⟨wd_1461, List.forall_mem_cons.mpr ⟨wd_1462, List.forall_mem_cons.mpr ⟨wd_1463, List.forall_mem_cons.mpr ⟨wd_1464, List.forall_mem_cons.mpr ⟨wd_1465, List.forall_mem_cons.mpr ⟨wd_1466, List.forall_mem_cons.mpr ⟨wd_1467, List.forall_mem_cons.mpr ⟨wd_1468, fun _ h => absurd h List.not_mem_nil⟩⟩⟩⟩⟩⟩⟩⟩⟩
theorem df_4 : ∀ k, k < 9 → defaultValue (tyX3 k) = bif misr (mty 4 k) then .null else .int 0 := by decide +kernel
set_option maxRecDepth 20000 in
theorem inw_5 : ∀ w ∈ u_ws RX4 TX4 7, w ∈ mgw := show ∀ w ∈ ([Cond.laysFinal "ClauseIndex$Parting" "ClauseIndex$Parting" "notAbove" "[[I", Cond.laysFinal "ClauseIndex$Parting" "ClauseIndex$Parting" "left" "[I", Cond.laysFinal "ClauseIndex$Parting" "ClauseIndex$Parting" "values" "[I", Cond.laysFinal "ClauseIndex$Parting" "ClauseIndex$Parting" "powers" "[I", Cond.lays "ClauseIndex$Parting" "ClauseIndex$Parting" "leftByTwo" "I", Cond.lays "ClauseIndex$Parting" "ClauseIndex$Parting" "lowerOfTwo" "I", Cond.lays "ClauseIndex$Parting" "ClauseIndex$Parting" "higherOfTwo" "I"] : List Cond), w ∈ mgw from List.forall_mem_cons.mpr ⟨wd_1469, List.forall_mem_cons.mpr ⟨wd_1470, List.forall_mem_cons.mpr ⟨wd_1471, List.forall_mem_cons.mpr ⟨wd_1472, List.forall_mem_cons.mpr ⟨wd_1473, List.forall_mem_cons.mpr ⟨wd_1474, List.forall_mem_cons.mpr ⟨wd_1475, fun _ h => absurd h List.not_mem_nil⟩⟩⟩⟩⟩⟩⟩
theorem df_5 : ∀ k, k < 7 → defaultValue (tyX4 k) = bif misr (mty 5 k) then .null else .int 0 := by decide +kernel
set_option maxRecDepth 20000 in
theorem inw_6 : ∀ w ∈ u_ws RX5 TX5 7, w ∈ mgw := show ∀ w ∈ ([Cond.laysFinal "ClauseIndex$Reader" "ClauseIndex$Reader" "bytes" "[I", Cond.laysFinal "ClauseIndex$Reader" "ClauseIndex$Reader" "draft" "LClauseIndex$Draft;", Cond.lays "ClauseIndex$Reader" "ClauseIndex$Reader" "size" "I", Cond.lays "ClauseIndex$Reader" "ClauseIndex$Reader" "end" "I", Cond.lays "ClauseIndex$Reader" "ClauseIndex$Reader" "here" "I", Cond.lays "ClauseIndex$Reader" "ClauseIndex$Reader" "fault" "I", Cond.lays "ClauseIndex$Reader" "ClauseIndex$Reader" "place" "I"] : List Cond), w ∈ mgw from List.forall_mem_cons.mpr ⟨wd_1476, List.forall_mem_cons.mpr ⟨wd_1477, List.forall_mem_cons.mpr ⟨wd_1478, List.forall_mem_cons.mpr ⟨wd_1479, List.forall_mem_cons.mpr ⟨wd_1480, List.forall_mem_cons.mpr ⟨wd_1481, List.forall_mem_cons.mpr ⟨wd_1482, fun _ h => absurd h List.not_mem_nil⟩⟩⟩⟩⟩⟩⟩
theorem df_6 : ∀ k, k < 7 → defaultValue (tyX5 k) = bif misr (mty 6 k) then .null else .int 0 := by decide +kernel
set_option maxRecDepth 20000 in
theorem inw_7 : ∀ w ∈ u_ws RX6 TX6 6, w ∈ mgw := show ∀ w ∈ ([Cond.laysFinal "ClauseIndex$Relation" "ClauseIndex$Relation" "covered" "[I", Cond.laysFinal "ClauseIndex$Relation" "ClauseIndex$Relation" "coverers" "[I", Cond.laysFinal "ClauseIndex$Relation" "ClauseIndex$Relation" "lengths" "[I", Cond.laysFinal "ClauseIndex$Relation" "ClauseIndex$Relation" "row" "[I", Cond.lays "ClauseIndex$Relation" "ClauseIndex$Relation" "all" "I", Cond.lays "ClauseIndex$Relation" "ClauseIndex$Relation" "known" "Z"] : List Cond), w ∈ mgw from List.forall_mem_cons.mpr ⟨wd_1483, List.forall_mem_cons.mpr ⟨wd_1484, List.forall_mem_cons.mpr ⟨wd_1485, List.forall_mem_cons.mpr ⟨wd_1486, List.forall_mem_cons.mpr ⟨wd_1487, List.forall_mem_cons.mpr ⟨wd_1488, fun _ h => absurd h List.not_mem_nil⟩⟩⟩⟩⟩⟩
theorem df_7 : ∀ k, k < 6 → defaultValue (tyX6 k) = bif misr (mty 7 k) then .null else .int 0 := by decide +kernel
set_option maxRecDepth 20000 in
theorem inw_8 : ∀ w ∈ u_ws RX7 TX7 3, w ∈ mgw := show ∀ w ∈ ([Cond.laysFinal "ClauseIndex$State" "ClauseIndex$State" "kept" "[LClauseIndex$Clause;", Cond.laysFinal "ClauseIndex$State" "ClauseIndex$State" "features" "[I", Cond.lays "ClauseIndex$State" "ClauseIndex$State" "laid" "I"] : List Cond), w ∈ mgw from List.forall_mem_cons.mpr ⟨wd_1489, List.forall_mem_cons.mpr ⟨wd_1490, List.forall_mem_cons.mpr ⟨wd_1491, fun _ h => absurd h List.not_mem_nil⟩⟩⟩
theorem df_8 : ∀ k, k < 3 → defaultValue (tyX7 k) = bif misr (mty 8 k) then .null else .int 0 := by decide +kernel
set_option maxRecDepth 20000 in
theorem inw_9 : ∀ w ∈ u_ws RX8 TX8 6, w ∈ mgw := show ∀ w ∈ ([Cond.laysFinal "ClauseIndex$Tree" "ClauseIndex$Tree" "levels" "[I", Cond.laysFinal "ClauseIndex$Tree" "ClauseIndex$Tree" "values" "[I", Cond.laysFinal "ClauseIndex$Tree" "ClauseIndex$Tree" "children" "[I", Cond.laysFinal "ClauseIndex$Tree" "ClauseIndex$Tree" "members" "[I", Cond.lays "ClauseIndex$Tree" "ClauseIndex$Tree" "size" "I", Cond.lays "ClauseIndex$Tree" "ClauseIndex$Tree" "reached" "I"] : List Cond), w ∈ mgw from List.forall_mem_cons.mpr ⟨wd_1492, List.forall_mem_cons.mpr ⟨wd_1493, List.forall_mem_cons.mpr ⟨wd_1494, List.forall_mem_cons.mpr ⟨wd_1495, List.forall_mem_cons.mpr ⟨wd_1496, List.forall_mem_cons.mpr ⟨wd_1497, fun _ h => absurd h List.not_mem_nil⟩⟩⟩⟩⟩⟩
theorem df_9 : ∀ k, k < 6 → defaultValue (tyX8 k) = bif misr (mty 9 k) then .null else .int 0 := by decide +kernel
set_option maxRecDepth 20000 in
theorem inw_10 : ∀ w ∈ u_ws RX9 TX9 14, w ∈ mgw := show ∀ w ∈ ([Cond.laysFinal "ClauseIndex" "ClauseIndex" "reader" "LClauseIndex$Reader;", Cond.laysFinal "ClauseIndex" "ClauseIndex" "matcher" "LClauseIndex$Matcher;", Cond.laysFinal "ClauseIndex" "ClauseIndex" "tree" "LClauseIndex$Tree;", Cond.laysFinal "ClauseIndex" "ClauseIndex" "parting" "LClauseIndex$Parting;", Cond.laysFinal "ClauseIndex" "ClauseIndex" "history" "LClauseIndex$History;", Cond.laysFinal "ClauseIndex" "ClauseIndex" "bySets" "LClauseIndex$Relation;", Cond.laysFinal "ClauseIndex" "ClauseIndex" "byNumbers" "LClauseIndex$Relation;", Cond.laysFinal "ClauseIndex" "ClauseIndex" "now" "LClauseIndex$State;", Cond.laysFinal "ClauseIndex" "ClauseIndex" "pictures" "[LClauseIndex$State;", Cond.laysFinal "ClauseIndex" "ClauseIndex" "picturedQueries" "[LClauseIndex$Clause;", Cond.laysFinal "ClauseIndex" "ClauseIndex" "wanted" "[I", Cond.lays "ClauseIndex" "ClauseIndex" "work" "LClauseIndex$Draft;", Cond.lays "ClauseIndex" "ClauseIndex" "spare" "LClauseIndex$Draft;", Cond.lays "ClauseIndex" "ClauseIndex" "asked" "LClauseIndex$Clause;"] : List Cond), w ∈ mgw from List.forall_mem_cons.mpr ⟨wd_1498, List.forall_mem_cons.mpr ⟨wd_1499, List.forall_mem_cons.mpr ⟨wd_1500, List.forall_mem_cons.mpr ⟨wd_1501, List.forall_mem_cons.mpr ⟨wd_1502, List.forall_mem_cons.mpr ⟨wd_1503, List.forall_mem_cons.mpr ⟨wd_1504, List.forall_mem_cons.mpr ⟨wd_1505, List.forall_mem_cons.mpr ⟨wd_1506, List.forall_mem_cons.mpr ⟨wd_1507, List.forall_mem_cons.mpr ⟨wd_1508, List.forall_mem_cons.mpr ⟨wd_1509, List.forall_mem_cons.mpr ⟨wd_1510, List.forall_mem_cons.mpr ⟨wd_1511, fun _ h => absurd h List.not_mem_nil⟩⟩⟩⟩⟩⟩⟩⟩⟩⟩⟩⟩⟩⟩
theorem df_10 : ∀ k, k < 14 → defaultValue (tyX9 k) = bif misr (mty 10 k) then .null else .int 0 := by decide +kernel
set_option maxRecDepth 20000 in
theorem inw_11 : ∀ w ∈ u_ws RX10 TX10 48, w ∈ mgw := show ∀ w ∈ ([Cond.lays "ClauseIndexModel" "ClauseIndexModel" "thrown" "I", Cond.laysFinal "ClauseIndexModel" "ClauseIndexModel" "all" "[I", Cond.laysFinal "ClauseIndexModel" "ClauseIndexModel" "deeds" "[I", Cond.lays "ClauseIndexModel" "ClauseIndexModel" "deedMany" "I", Cond.laysFinal "ClauseIndexModel" "ClauseIndexModel" "hasImage" "[Z", Cond.laysFinal "ClauseIndexModel" "ClauseIndexModel" "tape" "[I", Cond.laysFinal "ClauseIndexModel" "ClauseIndexModel" "read" "[I", Cond.lays "ClauseIndexModel" "ClauseIndexModel" "taped" "I", Cond.lays "ClauseIndexModel" "ClauseIndexModel" "size" "I", Cond.lays "ClauseIndexModel" "ClauseIndexModel" "at" "I", Cond.lays "ClauseIndexModel" "ClauseIndexModel" "readMany" "I", Cond.lays "ClauseIndexModel" "ClauseIndexModel" "depth" "I", Cond.lays "ClauseIndexModel" "ClauseIndexModel" "wrong" "I", Cond.lays "ClauseIndexModel" "ClauseIndexModel" "wrongAt" "I", Cond.lays "ClauseIndexModel" "ClauseIndexModel" "faultKind" "I", Cond.lays "ClauseIndexModel" "ClauseIndexModel" "faultPlace" "I", Cond.laysFinal "ClauseIndexModel" "ClauseIndexModel" "put" "[I", Cond.lays "ClauseIndexModel" "ClauseIndexModel" "putMany" "I", Cond.lays "ClauseIndexModel" "ClauseIndexModel" "putTimes" "I", Cond.laysFinal "ClauseIndexModel" "ClauseIndexModel" "boundAt" "[I", Cond.laysFinal "ClauseIndexModel" "ClauseIndexModel" "rowNow" "[I", Cond.laysFinal "ClauseIndexModel" "ClauseIndexModel" "rowFirst" "[I", Cond.laysFinal "ClauseIndexModel" "ClauseIndexModel" "boundFirst" "[I", Cond.lays "ClauseIndexModel" "ClauseIndexModel" "wayMany" "I", Cond.lays "ClauseIndexModel" "ClauseIndexModel" "mostWays" "I", Cond.lays "ClauseIndexModel" "ClauseIndexModel" "renamedMany" "I", Cond.lays "ClauseIndexModel" "ClauseIndexModel" "usedOnes" "I", Cond.lays "ClauseIndexModel" "ClauseIndexModel" "allowed" "I", Cond.lays "ClauseIndexModel" "ClauseIndexModel" "ofA" "I", Cond.lays "ClauseIndexModel" "ClauseIndexModel" "ofB" "I", Cond.lays "ClauseIndexModel" "ClauseIndexModel" "ofMode" "I", Cond.laysFinal "ClauseIndexModel" "ClauseIndexModel" "termNow" "[I", Cond.laysFinal "ClauseIndexModel" "ClauseIndexModel" "putWas" "[I", Cond.laysFinal "ClauseIndexModel" "ClauseIndexModel" "values" "[I", Cond.laysFinal "ClauseIndexModel" "ClauseIndexModel" "powers" "[I", Cond.laysFinal "ClauseIndexModel" "ClauseIndexModel" "chosen" "[I", Cond.laysFinal "ClauseIndexModel" "ClauseIndexModel" "sorted" "[I", Cond.laysFinal "ClauseIndexModel" "ClauseIndexModel" "above" "[I", Cond.laysFinal "ClauseIndexModel" "ClauseIndexModel" "deep" "[I", Cond.laysFinal "ClauseIndexModel" "ClauseIndexModel" "valueAt" "[I", Cond.laysFinal "ClauseIndexModel" "ClauseIndexModel" "belowMany" "[I", Cond.laysFinal "ClauseIndexModel" "ClauseIndexModel" "clauseMany" "[I", Cond.laysFinal "ClauseIndexModel" "ClauseIndexModel" "nodeOf" "[I", Cond.laysFinal "ClauseIndexModel" "ClauseIndexModel" "pathNow" "[I", Cond.laysFinal "ClauseIndexModel" "ClauseIndexModel" "isVisited" "[Z", Cond.lays "ClauseIndexModel" "ClauseIndexModel" "nodeMany" "I", Cond.laysFinal "ClauseIndexModel" "ClauseIndexModel" "isCovering" "[Z", Cond.laysFinal "ClauseIndexModel" "ClauseIndexModel" "chainFrom" "[I"] : List Cond), w ∈ mgw from List.forall_mem_cons.mpr ⟨wd_1512, List.forall_mem_cons.mpr ⟨wd_1513, List.forall_mem_cons.mpr ⟨wd_1514, List.forall_mem_cons.mpr ⟨wd_1515, List.forall_mem_cons.mpr ⟨wd_1516, List.forall_mem_cons.mpr ⟨wd_1517, List.forall_mem_cons.mpr ⟨wd_1518, List.forall_mem_cons.mpr ⟨wd_1519, List.forall_mem_cons.mpr ⟨wd_1520, List.forall_mem_cons.mpr ⟨wd_1521, List.forall_mem_cons.mpr ⟨wd_1522, List.forall_mem_cons.mpr ⟨wd_1523, List.forall_mem_cons.mpr ⟨wd_1524, List.forall_mem_cons.mpr ⟨wd_1525, List.forall_mem_cons.mpr ⟨wd_1526, List.forall_mem_cons.mpr ⟨wd_1527, List.forall_mem_cons.mpr ⟨wd_1528, List.forall_mem_cons.mpr ⟨wd_1529, List.forall_mem_cons.mpr ⟨wd_1530, List.forall_mem_cons.mpr ⟨wd_1531, List.forall_mem_cons.mpr ⟨wd_1532, List.forall_mem_cons.mpr ⟨wd_1533, List.forall_mem_cons.mpr ⟨wd_1534, List.forall_mem_cons.mpr ⟨wd_1535, List.forall_mem_cons.mpr ⟨wd_1536, List.forall_mem_cons.mpr ⟨wd_1537, List.forall_mem_cons.mpr ⟨wd_1538, List.forall_mem_cons.mpr ⟨wd_1539, List.forall_mem_cons.mpr ⟨wd_1540, List.forall_mem_cons.mpr ⟨wd_1541, List.forall_mem_cons.mpr ⟨wd_1542, List.forall_mem_cons.mpr ⟨wd_1543, List.forall_mem_cons.mpr ⟨wd_1544, List.forall_mem_cons.mpr ⟨wd_1545, List.forall_mem_cons.mpr ⟨wd_1546, List.forall_mem_cons.mpr ⟨wd_1547, List.forall_mem_cons.mpr ⟨wd_1548, List.forall_mem_cons.mpr ⟨wd_1549, List.forall_mem_cons.mpr ⟨wd_1550, List.forall_mem_cons.mpr ⟨wd_1551, List.forall_mem_cons.mpr ⟨wd_1552, List.forall_mem_cons.mpr ⟨wd_1553, List.forall_mem_cons.mpr ⟨wd_1554, List.forall_mem_cons.mpr ⟨wd_1555, List.forall_mem_cons.mpr ⟨wd_1556, List.forall_mem_cons.mpr ⟨wd_1557, List.forall_mem_cons.mpr ⟨wd_1558, List.forall_mem_cons.mpr ⟨wd_1559, fun _ h => absurd h List.not_mem_nil⟩⟩⟩⟩⟩⟩⟩⟩⟩⟩⟩⟩⟩⟩⟩⟩⟩⟩⟩⟩⟩⟩⟩⟩⟩⟩⟩⟩⟩⟩⟩⟩⟩⟩⟩⟩⟩⟩⟩⟩⟩⟩⟩⟩⟩⟩⟩⟩
theorem df_11 : ∀ k, k < 48 → defaultValue (tyX10 k) = bif misr (mty 11 k) then .null else .int 0 := by decide +kernel
theorem cal_Cl_init : mCal 0 yX0_init cX0_init 4 none := ⟨rfl, rfl, rfl, rfl, by decide, wd_1136, by decide +kernel, by decide +kernel⟩
theorem cal_Cl_startsOf : mCal 1 yX0_startsOf cX0_startsOf 5 (some (.array .int)) := ⟨rfl, rfl, rfl, rfl, by decide, wd_1137, by decide +kernel, by decide +kernel⟩
theorem cal_Cl_measureAll : mCal 2 yX0_measureAll cX0_measureAll 6 none := ⟨rfl, rfl, rfl, rfl, by decide, wd_1138, by decide +kernel, by decide +kernel⟩
theorem cal_Cl_raise : mCal 3 yX0_raise cX0_raise 4 none := ⟨rfl, rfl, rfl, rfl, by decide, wd_1139, by decide +kernel, by decide +kernel⟩
theorem cal_Cl_size : mCal 4 yX0_size cX0_size 1 (some .int) := ⟨rfl, rfl, rfl, rfl, by decide, wd_1140, by decide +kernel, by decide +kernel⟩
theorem cal_Cl_symbols : mCal 5 yX0_symbols cX0_symbols 1 (some .int) := ⟨rfl, rfl, rfl, rfl, by decide, wd_1141, by decide +kernel, by decide +kernel⟩
theorem cal_Cl_has : mCal 6 yX0_has cX0_has 2 (some .boolean) := ⟨rfl, rfl, rfl, rfl, by decide, wd_1142, by decide +kernel, by decide +kernel⟩
theorem cal_Cl_start : mCal 7 yX0_start cX0_start 2 (some .int) := ⟨rfl, rfl, rfl, rfl, by decide, wd_1143, by decide +kernel, by decide +kernel⟩
theorem cal_Cl_codeAt : mCal 8 yX0_codeAt cX0_codeAt 2 (some .int) := ⟨rfl, rfl, rfl, rfl, by decide, wd_1144, by decide +kernel, by decide +kernel⟩
theorem cal_Cl_depthAt : mCal 9 yX0_depthAt cX0_depthAt 2 (some .int) := ⟨rfl, rfl, rfl, rfl, by decide, wd_1145, by decide +kernel, by decide +kernel⟩
theorem cal_Cl_endOfTerm : mCal 10 yX0_endOfTerm cX0_endOfTerm 2 (some .int) := ⟨rfl, rfl, rfl, rfl, by decide, wd_1146, by decide +kernel, by decide +kernel⟩
theorem cal_Cl_variableBits : mCal 11 yX0_variableBits cX0_variableBits 3 (some .int) := ⟨rfl, rfl, rfl, rfl, by decide, wd_1147, by decide +kernel, by decide +kernel⟩
theorem cal_Cl_measure : mCal 12 yX0_measure cX0_measure 3 (some .int) := ⟨rfl, rfl, rfl, rfl, by decide, wd_1148, by decide +kernel, by decide +kernel⟩
theorem cal_Cl_sameRun : mCal 13 yX0_sameRun cX0_sameRun 5 (some .boolean) := ⟨rfl, rfl, rfl, rfl, by decide, wd_1149, by decide +kernel, by decide +kernel⟩
theorem cal_Cl_opposite : mCal 14 yX0_opposite cX0_opposite 4 (some .boolean) := ⟨rfl, rfl, rfl, rfl, by decide, wd_1150, by decide +kernel, by decide +kernel⟩
theorem cal_Dr_init : mCal 15 yX1_init cX1_init 1 none := ⟨rfl, rfl, rfl, rfl, by decide, wd_1151, by decide +kernel, by decide +kernel⟩
theorem cal_Dr_size : mCal 16 yX1_size cX1_size 1 (some .int) := ⟨rfl, rfl, rfl, rfl, by decide, wd_1152, by decide +kernel, by decide +kernel⟩
theorem cal_Dr_empty : mCal 17 yX1_empty cX1_empty 1 none := ⟨rfl, rfl, rfl, rfl, by decide, wd_1153, by decide +kernel, by decide +kernel⟩
theorem cal_Dr_codeAt : mCal 18 yX1_codeAt cX1_codeAt 2 (some .int) := ⟨rfl, rfl, rfl, rfl, by decide, wd_1154, by decide +kernel, by decide +kernel⟩
theorem cal_Dr_depthAt : mCal 19 yX1_depthAt cX1_depthAt 2 (some .int) := ⟨rfl, rfl, rfl, rfl, by decide, wd_1155, by decide +kernel, by decide +kernel⟩
theorem cal_Dr_isFull : mCal 20 yX1_isFull cX1_isFull 1 (some .boolean) := ⟨rfl, rfl, rfl, rfl, by decide, wd_1156, by decide +kernel, by decide +kernel⟩
theorem cal_Dr_push : mCal 21 yX1_push cX1_push 3 (some .boolean) := ⟨rfl, rfl, rfl, rfl, by decide, wd_1157, by decide +kernel, by decide +kernel⟩
theorem cal_Dr_load : mCal 22 yX1_load cX1_load 3 none := ⟨rfl, rfl, rfl, rfl, by decide, wd_1158, by decide +kernel, by decide +kernel⟩
theorem cal_Dr_loadWithout : mCal 23 yX1_loadWithout cX1_loadWithout 5 none := ⟨rfl, rfl, rfl, rfl, by decide, wd_1159, by decide +kernel, by decide +kernel⟩
theorem cal_Dr_loadPut : mCal 24 yX1_loadPut cX1_loadPut 8 (some .boolean) := ⟨rfl, rfl, rfl, rfl, by decide, wd_1160, by decide +kernel, by decide +kernel⟩
theorem cal_Dr_pushTerm : mCal 25 yX1_pushTerm cX1_pushTerm 8 (some .boolean) := ⟨rfl, rfl, rfl, rfl, by decide, wd_1161, by decide +kernel, by decide +kernel⟩
theorem cal_Dr_times : mCal 26 yX1_times cX1_times 6 (some .int) := ⟨rfl, rfl, rfl, rfl, by decide, wd_1162, by decide +kernel, by decide +kernel⟩
theorem cal_Dr_endOfTerm : mCal 27 yX1_endOfTerm cX1_endOfTerm 4 (some .int) := ⟨rfl, rfl, rfl, rfl, by decide, wd_1163, by decide +kernel, by decide +kernel⟩
theorem cal_Dr_startOf : mCal 28 yX1_startOf cX1_startOf 4 (some .int) := ⟨rfl, rfl, rfl, rfl, by decide, wd_1164, by decide +kernel, by decide +kernel⟩
theorem cal_Hi_init : mCal 29 yX2_init cX2_init 2 none := ⟨rfl, rfl, rfl, rfl, by decide, wd_1165, by decide +kernel, by decide +kernel⟩
theorem cal_Hi_size : mCal 30 yX2_size cX2_size 1 (some .int) := ⟨rfl, rfl, rfl, rfl, by decide, wd_1166, by decide +kernel, by decide +kernel⟩
theorem cal_Hi_note : mCal 31 yX2_note cX2_note 2 none := ⟨rfl, rfl, rfl, rfl, by decide, wd_1167, by decide +kernel, by decide +kernel⟩
theorem cal_Hi_goBack : mCal 32 yX2_goBack cX2_goBack 3 none := ⟨rfl, rfl, rfl, rfl, by decide, wd_1168, by decide +kernel, by decide +kernel⟩
theorem cal_Hi_forget : mCal 33 yX2_forget cX2_forget 1 none := ⟨rfl, rfl, rfl, rfl, by decide, wd_1169, by decide +kernel, by decide +kernel⟩
theorem cal_Ma_init : mCal 34 yX3_init cX3_init 1 none := ⟨rfl, rfl, rfl, rfl, by decide, wd_1170, by decide +kernel, by decide +kernel⟩
theorem cal_Ma_findsFirst : mCal 35 yX3_findsFirst cX3_findsFirst 4 (some .boolean) := ⟨rfl, rfl, rfl, rfl, by decide, wd_1171, by decide +kernel, by decide +kernel⟩
theorem cal_Ma_countAll : mCal 36 yX3_countAll cX3_countAll 4 (some .int) := ⟨rfl, rfl, rfl, rfl, by decide, wd_1172, by decide +kernel, by decide +kernel⟩
theorem cal_Ma_findsForOne : mCal 37 yX3_findsForOne cX3_findsForOne 4 (some .boolean) := ⟨rfl, rfl, rfl, rfl, by decide, wd_1173, by decide +kernel, by decide +kernel⟩
theorem cal_Ma_findsAmong : mCal 38 yX3_findsAmong cX3_findsAmong 4 (some .boolean) := ⟨rfl, rfl, rfl, rfl, by decide, wd_1174, by decide +kernel, by decide +kernel⟩
theorem cal_Ma_findsRenaming : mCal 39 yX3_findsRenaming cX3_findsRenaming 3 (some .boolean) := ⟨rfl, rfl, rfl, rfl, by decide, wd_1175, by decide +kernel, by decide +kernel⟩
theorem cal_Ma_placeOf : mCal 40 yX3_placeOf cX3_placeOf 2 (some .int) := ⟨rfl, rfl, rfl, rfl, by decide, wd_1176, by decide +kernel, by decide +kernel⟩
theorem cal_Ma_termOf : mCal 41 yX3_termOf cX3_termOf 2 (some .int) := ⟨rfl, rfl, rfl, rfl, by decide, wd_1177, by decide +kernel, by decide +kernel⟩
theorem cal_Ma_isPut : mCal 42 yX3_isPut cX3_isPut 2 (some .boolean) := ⟨rfl, rfl, rfl, rfl, by decide, wd_1178, by decide +kernel, by decide +kernel⟩
theorem cal_Ma_allOf : mCal 43 yX3_allOf cX3_allOf 1 (some .int) := ⟨rfl, rfl, rfl, rfl, by decide, wd_1179, by decide +kernel, by decide +kernel⟩
theorem cal_Ma_aim : mCal 44 yX3_aim cX3_aim 3 none := ⟨rfl, rfl, rfl, rfl, by decide, wd_1180, by decide +kernel, by decide +kernel⟩
theorem cal_Ma_settle : mCal 45 yX3_settle cX3_settle 8 none := ⟨rfl, rfl, rfl, rfl, by decide, wd_1181, by decide +kernel, by decide +kernel⟩
theorem cal_Ma_fits : mCal 46 yX3_fits cX3_fits 10 (some .boolean) := ⟨rfl, rfl, rfl, rfl, by decide, wd_1182, by decide +kernel, by decide +kernel⟩
theorem cal_Ma_binds : mCal 47 yX3_binds cX3_binds 6 (some .boolean) := ⟨rfl, rfl, rfl, rfl, by decide, wd_1183, by decide +kernel, by decide +kernel⟩
theorem cal_Pa_init : mCal 48 yX4_init cX4_init 1 none := ⟨rfl, rfl, rfl, rfl, by decide, wd_1184, by decide +kernel, by decide +kernel⟩
theorem cal_Pa_unlike : mCal 49 yX4_unlike cX4_unlike 8 (some .int) := ⟨rfl, rfl, rfl, rfl, by decide, wd_1185, by decide +kernel, by decide +kernel⟩
theorem cal_Pa_strongest : mCal 50 yX4_strongest cX4_strongest 8 none := ⟨rfl, rfl, rfl, rfl, by decide, wd_1186, by decide +kernel, by decide +kernel⟩
theorem cal_Pa_leftByOrder : mCal 51 yX4_leftByOrder cX4_leftByOrder 5 (some .int) := ⟨rfl, rfl, rfl, rfl, by decide, wd_1187, by decide +kernel, by decide +kernel⟩
theorem cal_Pa_closest : mCal 52 yX4_closest cX4_closest 10 (some .int) := ⟨rfl, rfl, rfl, rfl, by decide, wd_1188, by decide +kernel, by decide +kernel⟩
theorem cal_Pa_bestTwo : mCal 53 yX4_bestTwo cX4_bestTwo 6 none := ⟨rfl, rfl, rfl, rfl, by decide, wd_1189, by decide +kernel, by decide +kernel⟩
theorem cal_Pa_leftByTwo : mCal 54 yX4_leftByTwo cX4_leftByTwo 1 (some .int) := ⟨rfl, rfl, rfl, rfl, by decide, wd_1190, by decide +kernel, by decide +kernel⟩
theorem cal_Pa_lowerOfTwo : mCal 55 yX4_lowerOfTwo cX4_lowerOfTwo 1 (some .int) := ⟨rfl, rfl, rfl, rfl, by decide, wd_1191, by decide +kernel, by decide +kernel⟩
theorem cal_Pa_higherOfTwo : mCal 56 yX4_higherOfTwo cX4_higherOfTwo 1 (some .int) := ⟨rfl, rfl, rfl, rfl, by decide, wd_1192, by decide +kernel, by decide +kernel⟩
theorem cal_Pa_isAmong : mCal 57 yX4_isAmong cX4_isAmong 4 (some .boolean) := ⟨rfl, rfl, rfl, rfl, by decide, wd_1193, by decide +kernel, by decide +kernel⟩
theorem cal_Pa_compareAll : mCal 58 yX4_compareAll cX4_compareAll 4 none := ⟨rfl, rfl, rfl, rfl, by decide, wd_1194, by decide +kernel, by decide +kernel⟩
theorem cal_Pa_compare : mCal 59 yX4_compare cX4_compare 9 none := ⟨rfl, rfl, rfl, rfl, by decide, wd_1195, by decide +kernel, by decide +kernel⟩
theorem cal_Pa_readValues : mCal 60 yX4_readValues cX4_readValues 6 none := ⟨rfl, rfl, rfl, rfl, by decide, wd_1196, by decide +kernel, by decide +kernel⟩
theorem cal_Pa_leaveAll : mCal 61 yX4_leaveAll cX4_leaveAll 4 none := ⟨rfl, rfl, rfl, rfl, by decide, wd_1197, by decide +kernel, by decide +kernel⟩
theorem cal_Pa_narrow : mCal 62 yX4_narrow cX4_narrow 4 none := ⟨rfl, rfl, rfl, rfl, by decide, wd_1198, by decide +kernel, by decide +kernel⟩
theorem cal_Pa_leftWith : mCal 63 yX4_leftWith cX4_leftWith 5 (some .int) := ⟨rfl, rfl, rfl, rfl, by decide, wd_1199, by decide +kernel, by decide +kernel⟩
theorem cal_Re_init : mCal 64 yX5_init cX5_init 1 none := ⟨rfl, rfl, rfl, rfl, by decide, wd_1200, by decide +kernel, by decide +kernel⟩
theorem cal_Re_onTape : mCal 65 yX5_onTape cX5_onTape 1 (some .int) := ⟨rfl, rfl, rfl, rfl, by decide, wd_1201, by decide +kernel, by decide +kernel⟩
theorem cal_Re_latestFault : mCal 66 yX5_latestFault cX5_latestFault 1 (some .int) := ⟨rfl, rfl, rfl, rfl, by decide, wd_1202, by decide +kernel, by decide +kernel⟩
theorem cal_Re_latestPlace : mCal 67 yX5_latestPlace cX5_latestPlace 1 (some .int) := ⟨rfl, rfl, rfl, rfl, by decide, wd_1203, by decide +kernel, by decide +kernel⟩
theorem cal_Re_symbolsRead : mCal 68 yX5_symbolsRead cX5_symbolsRead 1 (some (.object "ClauseIndex$Draft")) := ⟨rfl, rfl, rfl, rfl, by decide, wd_1204, by decide +kernel, by decide +kernel⟩
theorem cal_Re_putWord : mCal 69 yX5_putWord cX5_putWord 3 none := ⟨rfl, rfl, rfl, rfl, by decide, wd_1205, by decide +kernel, by decide +kernel⟩
theorem cal_Re_readClause : mCal 70 yX5_readClause cX5_readClause 3 (some .boolean) := ⟨rfl, rfl, rfl, rfl, by decide, wd_1206, by decide +kernel, by decide +kernel⟩
theorem cal_Re_readPut : mCal 71 yX5_readPut cX5_readPut 3 (some .boolean) := ⟨rfl, rfl, rfl, rfl, by decide, wd_1207, by decide +kernel, by decide +kernel⟩
theorem cal_Re_begin : mCal 72 yX5_begin cX5_begin 2 none := ⟨rfl, rfl, rfl, rfl, by decide, wd_1208, by decide +kernel, by decide +kernel⟩
theorem cal_Re_fail : mCal 73 yX5_fail cX5_fail 2 (some .boolean) := ⟨rfl, rfl, rfl, rfl, by decide, wd_1209, by decide +kernel, by decide +kernel⟩
theorem cal_Re_look : mCal 74 yX5_look cX5_look 1 (some .int) := ⟨rfl, rfl, rfl, rfl, by decide, wd_1210, by decide +kernel, by decide +kernel⟩
theorem cal_Re_expect : mCal 75 yX5_expect cX5_expect 2 (some .boolean) := ⟨rfl, rfl, rfl, rfl, by decide, wd_1211, by decide +kernel, by decide +kernel⟩
theorem cal_Re_readLiteral : mCal 76 yX5_readLiteral cX5_readLiteral 3 (some .boolean) := ⟨rfl, rfl, rfl, rfl, by decide, wd_1212, by decide +kernel, by decide +kernel⟩
theorem cal_Re_readTerms : mCal 77 yX5_readTerms cX5_readTerms 3 (some .boolean) := ⟨rfl, rfl, rfl, rfl, by decide, wd_1213, by decide +kernel, by decide +kernel⟩
theorem cal_Re_readTerm : mCal 78 yX5_readTerm cX5_readTerm 3 (some .boolean) := ⟨rfl, rfl, rfl, rfl, by decide, wd_1214, by decide +kernel, by decide +kernel⟩
theorem cal_Re_readSymbol : mCal 79 yX5_readSymbol cX5_readSymbol 3 (some .boolean) := ⟨rfl, rfl, rfl, rfl, by decide, wd_1215, by decide +kernel, by decide +kernel⟩
theorem cal_Re_termCode : mCal 80 yX5_termCode cX5_termCode 1 (some .int) := ⟨rfl, rfl, rfl, rfl, by decide, wd_1216, by decide +kernel, by decide +kernel⟩
theorem cal_Rl_init : mCal 81 yX6_init cX6_init 1 none := ⟨rfl, rfl, rfl, rfl, by decide, wd_1217, by decide +kernel, by decide +kernel⟩
theorem cal_Rl_isKnown : mCal 82 yX6_isKnown cX6_isKnown 1 (some .boolean) := ⟨rfl, rfl, rfl, rfl, by decide, wd_1218, by decide +kernel, by decide +kernel⟩
theorem cal_Rl_forget : mCal 83 yX6_forget cX6_forget 1 none := ⟨rfl, rfl, rfl, rfl, by decide, wd_1219, by decide +kernel, by decide +kernel⟩
theorem cal_Rl_begin : mCal 84 yX6_begin cX6_begin 3 none := ⟨rfl, rfl, rfl, rfl, by decide, wd_1220, by decide +kernel, by decide +kernel⟩
theorem cal_Rl_note : mCal 85 yX6_note cX6_note 3 none := ⟨rfl, rfl, rfl, rfl, by decide, wd_1221, by decide +kernel, by decide +kernel⟩
theorem cal_Rl_size : mCal 86 yX6_size cX6_size 3 (some .int) := ⟨rfl, rfl, rfl, rfl, by decide, wd_1222, by decide +kernel, by decide +kernel⟩
theorem cal_Rl_spareOnes : mCal 87 yX6_spareOnes cX6_spareOnes 4 (some .int) := ⟨rfl, rfl, rfl, rfl, by decide, wd_1223, by decide +kernel, by decide +kernel⟩
theorem cal_Rl_mostGeneral : mCal 88 yX6_mostGeneral cX6_mostGeneral 3 (some .int) := ⟨rfl, rfl, rfl, rfl, by decide, wd_1224, by decide +kernel, by decide +kernel⟩
theorem cal_Rl_classes : mCal 89 yX6_classes cX6_classes 4 (some .int) := ⟨rfl, rfl, rfl, rfl, by decide, wd_1225, by decide +kernel, by decide +kernel⟩
theorem cal_Rl_layLongestRow : mCal 90 yX6_layLongestRow cX6_layLongestRow 5 (some .int) := ⟨rfl, rfl, rfl, rfl, by decide, wd_1226, by decide +kernel, by decide +kernel⟩
theorem cal_Rl_inRow : mCal 91 yX6_inRow cX6_inRow 2 (some .int) := ⟨rfl, rfl, rfl, rfl, by decide, wd_1227, by decide +kernel, by decide +kernel⟩
theorem cal_Rl_measureRows : mCal 92 yX6_measureRows cX6_measureRows 6 none := ⟨rfl, rfl, rfl, rfl, by decide, wd_1228, by decide +kernel, by decide +kernel⟩
theorem cal_Rl_firstOfLongest : mCal 93 yX6_firstOfLongest cX6_firstOfLongest 5 (some .int) := ⟨rfl, rfl, rfl, rfl, by decide, wd_1229, by decide +kernel, by decide +kernel⟩
theorem cal_St_init : mCal 94 yX7_init cX7_init 1 none := ⟨rfl, rfl, rfl, rfl, by decide, wd_1230, by decide +kernel, by decide +kernel⟩
theorem cal_St_clause : mCal 95 yX7_clause cX7_clause 2 (some (.object "ClauseIndex$Clause")) := ⟨rfl, rfl, rfl, rfl, by decide, wd_1231, by decide +kernel, by decide +kernel⟩
theorem cal_St_store : mCal 96 yX7_store cX7_store 3 none := ⟨rfl, rfl, rfl, rfl, by decide, wd_1232, by decide +kernel, by decide +kernel⟩
theorem cal_St_drop : mCal 97 yX7_drop cX7_drop 3 none := ⟨rfl, rfl, rfl, rfl, by decide, wd_1233, by decide +kernel, by decide +kernel⟩
theorem cal_St_lowestFree : mCal 98 yX7_lowestFree cX7_lowestFree 2 (some .int) := ⟨rfl, rfl, rfl, rfl, by decide, wd_1234, by decide +kernel, by decide +kernel⟩
theorem cal_St_numbers : mCal 99 yX7_numbers cX7_numbers 3 (some .int) := ⟨rfl, rfl, rfl, rfl, by decide, wd_1235, by decide +kernel, by decide +kernel⟩
theorem cal_St_laid : mCal 100 yX7_laid cX7_laid 1 (some .int) := ⟨rfl, rfl, rfl, rfl, by decide, wd_1236, by decide +kernel, by decide +kernel⟩
theorem cal_St_featureAt : mCal 101 yX7_featureAt cX7_featureAt 2 (some .int) := ⟨rfl, rfl, rfl, rfl, by decide, wd_1237, by decide +kernel, by decide +kernel⟩
theorem cal_St_isLaid : mCal 102 yX7_isLaid cX7_isLaid 3 (some .boolean) := ⟨rfl, rfl, rfl, rfl, by decide, wd_1238, by decide +kernel, by decide +kernel⟩
theorem cal_St_append : mCal 103 yX7_append cX7_append 2 none := ⟨rfl, rfl, rfl, rfl, by decide, wd_1239, by decide +kernel, by decide +kernel⟩
theorem cal_St_dropLast : mCal 104 yX7_dropLast cX7_dropLast 1 none := ⟨rfl, rfl, rfl, rfl, by decide, wd_1240, by decide +kernel, by decide +kernel⟩
theorem cal_St_isOrder : mCal 105 yX7_isOrder cX7_isOrder 4 (some .boolean) := ⟨rfl, rfl, rfl, rfl, by decide, wd_1241, by decide +kernel, by decide +kernel⟩
theorem cal_St_layAll : mCal 106 yX7_layAll cX7_layAll 4 none := ⟨rfl, rfl, rfl, rfl, by decide, wd_1242, by decide +kernel, by decide +kernel⟩
theorem cal_St_copy : mCal 107 yX7_copy cX7_copy 3 none := ⟨rfl, rfl, rfl, rfl, by decide, wd_1243, by decide +kernel, by decide +kernel⟩
theorem cal_St_leastOf : mCal 108 yX7_leastOf cX7_leastOf 5 (some .int) := ⟨rfl, rfl, rfl, rfl, by decide, wd_1244, by decide +kernel, by decide +kernel⟩
theorem cal_St_having : mCal 109 yX7_having cX7_having 6 (some .int) := ⟨rfl, rfl, rfl, rfl, by decide, wd_1245, by decide +kernel, by decide +kernel⟩
theorem cal_Tr_init : mCal 110 yX8_init cX8_init 1 none := ⟨rfl, rfl, rfl, rfl, by decide, wd_1246, by decide +kernel, by decide +kernel⟩
theorem cal_Tr_grow : mCal 111 yX8_grow cX8_grow 2 none := ⟨rfl, rfl, rfl, rfl, by decide, wd_1247, by decide +kernel, by decide +kernel⟩
theorem cal_Tr_branch : mCal 112 yX8_branch cX8_branch 11 none := ⟨rfl, rfl, rfl, rfl, by decide, wd_1248, by decide +kernel, by decide +kernel⟩
theorem cal_Tr_size : mCal 113 yX8_size cX8_size 1 (some .int) := ⟨rfl, rfl, rfl, rfl, by decide, wd_1249, by decide +kernel, by decide +kernel⟩
theorem cal_Tr_levelOf : mCal 114 yX8_levelOf cX8_levelOf 2 (some .int) := ⟨rfl, rfl, rfl, rfl, by decide, wd_1250, by decide +kernel, by decide +kernel⟩
theorem cal_Tr_valueOf : mCal 115 yX8_valueOf cX8_valueOf 2 (some .int) := ⟨rfl, rfl, rfl, rfl, by decide, wd_1251, by decide +kernel, by decide +kernel⟩
theorem cal_Tr_childrenOf : mCal 116 yX8_childrenOf cX8_childrenOf 2 (some .int) := ⟨rfl, rfl, rfl, rfl, by decide, wd_1252, by decide +kernel, by decide +kernel⟩
theorem cal_Tr_membersOf : mCal 117 yX8_membersOf cX8_membersOf 2 (some .int) := ⟨rfl, rfl, rfl, rfl, by decide, wd_1253, by decide +kernel, by decide +kernel⟩
theorem cal_Tr_endOf : mCal 118 yX8_endOf cX8_endOf 4 (some .int) := ⟨rfl, rfl, rfl, rfl, by decide, wd_1254, by decide +kernel, by decide +kernel⟩
theorem cal_Tr_walk : mCal 119 yX8_walk cX8_walk 9 (some .int) := ⟨rfl, rfl, rfl, rfl, by decide, wd_1255, by decide +kernel, by decide +kernel⟩
theorem cal_Tr_passes : mCal 120 yX8_passes cX8_passes 8 (some .boolean) := ⟨rfl, rfl, rfl, rfl, by decide, wd_1256, by decide +kernel, by decide +kernel⟩
theorem cal_Tr_reachedBits : mCal 121 yX8_reachedBits cX8_reachedBits 1 (some .int) := ⟨rfl, rfl, rfl, rfl, by decide, wd_1257, by decide +kernel, by decide +kernel⟩
theorem cal_C_init : mCal 122 yX9_init cX9_init 2 none := ⟨rfl, rfl, rfl, rfl, by decide, wd_1258, by decide +kernel, by decide +kernel⟩
theorem cal_C_feed : mCal 123 yX9_feed cX9_feed 6 (some .int) := ⟨rfl, rfl, rfl, rfl, by decide, wd_1259, by decide +kernel, by decide +kernel⟩
theorem cal_C_add : mCal 124 yX9_add cX9_add 3 (some .int) := ⟨rfl, rfl, rfl, rfl, by decide, wd_1260, by decide +kernel, by decide +kernel⟩
theorem cal_C_query : mCal 125 yX9_query cX9_query 2 (some .int) := ⟨rfl, rfl, rfl, rfl, by decide, wd_1261, by decide +kernel, by decide +kernel⟩
theorem cal_C_apply : mCal 126 yX9_apply cX9_apply 5 (some .int) := ⟨rfl, rfl, rfl, rfl, by decide, wd_1262, by decide +kernel, by decide +kernel⟩
theorem cal_C_fault : mCal 127 yX9_fault cX9_fault 2 (some .int) := ⟨rfl, rfl, rfl, rfl, by decide, wd_1263, by decide +kernel, by decide +kernel⟩
theorem cal_C_take : mCal 128 yX9_take cX9_take 3 (some .int) := ⟨rfl, rfl, rfl, rfl, by decide, wd_1264, by decide +kernel, by decide +kernel⟩
theorem cal_C_keep : mCal 129 yX9_keep cX9_keep 2 (some .int) := ⟨rfl, rfl, rfl, rfl, by decide, wd_1265, by decide +kernel, by decide +kernel⟩
theorem cal_C_remove : mCal 130 yX9_remove cX9_remove 2 (some .int) := ⟨rfl, rfl, rfl, rfl, by decide, wd_1266, by decide +kernel, by decide +kernel⟩
theorem cal_C_literals : mCal 131 yX9_literals cX9_literals 3 (some .int) := ⟨rfl, rfl, rfl, rfl, by decide, wd_1267, by decide +kernel, by decide +kernel⟩
theorem cal_C_literal : mCal 132 yX9_literal cX9_literal 6 (some .int) := ⟨rfl, rfl, rfl, rfl, by decide, wd_1268, by decide +kernel, by decide +kernel⟩
theorem cal_C_code : mCal 133 yX9_code cX9_code 4 (some .int) := ⟨rfl, rfl, rfl, rfl, by decide, wd_1269, by decide +kernel, by decide +kernel⟩
theorem cal_C_variables : mCal 134 yX9_variables cX9_variables 3 (some .int) := ⟨rfl, rfl, rfl, rfl, by decide, wd_1270, by decide +kernel, by decide +kernel⟩
theorem cal_C_always : mCal 135 yX9_always cX9_always 5 (some .int) := ⟨rfl, rfl, rfl, rfl, by decide, wd_1271, by decide +kernel, by decide +kernel⟩
theorem cal_C_condensed : mCal 136 yX9_condensed cX9_condensed 5 (some .int) := ⟨rfl, rfl, rfl, rfl, by decide, wd_1272, by decide +kernel, by decide +kernel⟩
theorem cal_C_covers : mCal 137 yX9_covers cX9_covers 6 (some .int) := ⟨rfl, rfl, rfl, rfl, by decide, wd_1273, by decide +kernel, by decide +kernel⟩
theorem cal_C_ways : mCal 138 yX9_ways cX9_ways 6 (some .int) := ⟨rfl, rfl, rfl, rfl, by decide, wd_1274, by decide +kernel, by decide +kernel⟩
theorem cal_C_way : mCal 139 yX9_way cX9_way 7 (some .int) := ⟨rfl, rfl, rfl, rfl, by decide, wd_1275, by decide +kernel, by decide +kernel⟩
theorem cal_C_bound : mCal 140 yX9_bound cX9_bound 10 (some .int) := ⟨rfl, rfl, rfl, rfl, by decide, wd_1276, by decide +kernel, by decide +kernel⟩
theorem cal_C_single : mCal 141 yX9_single cX9_single 7 (some .int) := ⟨rfl, rfl, rfl, rfl, by decide, wd_1277, by decide +kernel, by decide +kernel⟩
theorem cal_C_factor : mCal 142 yX9_factor cX9_factor 6 (some .int) := ⟨rfl, rfl, rfl, rfl, by decide, wd_1278, by decide +kernel, by decide +kernel⟩
theorem cal_C_alike : mCal 143 yX9_alike cX9_alike 5 (some .int) := ⟨rfl, rfl, rfl, rfl, by decide, wd_1279, by decide +kernel, by decide +kernel⟩
theorem cal_C_value : mCal 144 yX9_value cX9_value 5 (some .int) := ⟨rfl, rfl, rfl, rfl, by decide, wd_1280, by decide +kernel, by decide +kernel⟩
theorem cal_C_power : mCal 145 yX9_power cX9_power 3 (some .int) := ⟨rfl, rfl, rfl, rfl, by decide, wd_1281, by decide +kernel, by decide +kernel⟩
theorem cal_C_choose : mCal 146 yX9_choose cX9_choose 3 (some .int) := ⟨rfl, rfl, rfl, rfl, by decide, wd_1282, by decide +kernel, by decide +kernel⟩
theorem cal_C_greedy : mCal 147 yX9_greedy cX9_greedy 4 (some .int) := ⟨rfl, rfl, rfl, rfl, by decide, wd_1283, by decide +kernel, by decide +kernel⟩
theorem cal_C_lay : mCal 148 yX9_lay cX9_lay 2 (some .int) := ⟨rfl, rfl, rfl, rfl, by decide, wd_1284, by decide +kernel, by decide +kernel⟩
theorem cal_C_unlay : mCal 149 yX9_unlay cX9_unlay 1 (some .int) := ⟨rfl, rfl, rfl, rfl, by decide, wd_1285, by decide +kernel, by decide +kernel⟩
theorem cal_C_order : mCal 150 yX9_order cX9_order 2 (some .int) := ⟨rfl, rfl, rfl, rfl, by decide, wd_1286, by decide +kernel, by decide +kernel⟩
theorem cal_C_nodes : mCal 151 yX9_nodes cX9_nodes 1 (some .int) := ⟨rfl, rfl, rfl, rfl, by decide, wd_1287, by decide +kernel, by decide +kernel⟩
theorem cal_C_node : mCal 152 yX9_node cX9_node 3 (some .int) := ⟨rfl, rfl, rfl, rfl, by decide, wd_1288, by decide +kernel, by decide +kernel⟩
theorem cal_C_at : mCal 153 yX9_at cX9_at 2 (some .int) := ⟨rfl, rfl, rfl, rfl, by decide, wd_1289, by decide +kernel, by decide +kernel⟩
theorem cal_C_forward : mCal 154 yX9_forward cX9_forward 3 (some .int) := ⟨rfl, rfl, rfl, rfl, by decide, wd_1290, by decide +kernel, by decide +kernel⟩
theorem cal_C_backward : mCal 155 yX9_backward cX9_backward 3 (some .int) := ⟨rfl, rfl, rfl, rfl, by decide, wd_1291, by decide +kernel, by decide +kernel⟩
theorem cal_C_visited : mCal 156 yX9_visited cX9_visited 3 (some .int) := ⟨rfl, rfl, rfl, rfl, by decide, wd_1292, by decide +kernel, by decide +kernel⟩
theorem cal_C_candidates : mCal 157 yX9_candidates cX9_candidates 3 (some .int) := ⟨rfl, rfl, rfl, rfl, by decide, wd_1293, by decide +kernel, by decide +kernel⟩
theorem cal_C_total : mCal 158 yX9_total cX9_total 6 (some .int) := ⟨rfl, rfl, rfl, rfl, by decide, wd_1294, by decide +kernel, by decide +kernel⟩
theorem cal_C_pairs : mCal 159 yX9_pairs cX9_pairs 3 (some .int) := ⟨rfl, rfl, rfl, rfl, by decide, wd_1295, by decide +kernel, by decide +kernel⟩
theorem cal_C_rate : mCal 160 yX9_rate cX9_rate 2 (some .int) := ⟨rfl, rfl, rfl, rfl, by decide, wd_1296, by decide +kernel, by decide +kernel⟩
theorem cal_C_best : mCal 161 yX9_best cX9_best 3 (some .int) := ⟨rfl, rfl, rfl, rfl, by decide, wd_1297, by decide +kernel, by decide +kernel⟩
theorem cal_C_redundant : mCal 162 yX9_redundant cX9_redundant 2 (some .int) := ⟨rfl, rfl, rfl, rfl, by decide, wd_1298, by decide +kernel, by decide +kernel⟩
theorem cal_C_clean : mCal 163 yX9_clean cX9_clean 3 (some .int) := ⟨rfl, rfl, rfl, rfl, by decide, wd_1299, by decide +kernel, by decide +kernel⟩
theorem cal_C_tops : mCal 164 yX9_tops cX9_tops 2 (some .int) := ⟨rfl, rfl, rfl, rfl, by decide, wd_1300, by decide +kernel, by decide +kernel⟩
theorem cal_C_chain : mCal 165 yX9_chain cX9_chain 5 (some .int) := ⟨rfl, rfl, rfl, rfl, by decide, wd_1301, by decide +kernel, by decide +kernel⟩
theorem cal_C_parts : mCal 166 yX9_parts cX9_parts 2 (some .int) := ⟨rfl, rfl, rfl, rfl, by decide, wd_1302, by decide +kernel, by decide +kernel⟩
theorem cal_C_doubles : mCal 167 yX9_doubles cX9_doubles 3 (some .int) := ⟨rfl, rfl, rfl, rfl, by decide, wd_1303, by decide +kernel, by decide +kernel⟩
theorem cal_C_undo : mCal 168 yX9_undo cX9_undo 2 (some .int) := ⟨rfl, rfl, rfl, rfl, by decide, wd_1304, by decide +kernel, by decide +kernel⟩
theorem cal_C_image : mCal 169 yX9_image cX9_image 2 (some .int) := ⟨rfl, rfl, rfl, rfl, by decide, wd_1305, by decide +kernel, by decide +kernel⟩
theorem cal_C_restore : mCal 170 yX9_restore cX9_restore 2 (some .int) := ⟨rfl, rfl, rfl, rfl, by decide, wd_1306, by decide +kernel, by decide +kernel⟩
theorem cal_C_count : mCal 171 yX9_count cX9_count 2 (some .int) := ⟨rfl, rfl, rfl, rfl, by decide, wd_1307, by decide +kernel, by decide +kernel⟩
theorem cal_C_isMode : mCal 172 yX9_isMode cX9_isMode 1 (some .boolean) := ⟨rfl, rfl, rfl, rfl, by decide, wd_1308, by decide +kernel, by decide +kernel⟩
theorem cal_C_isWay : mCal 173 yX9_isWay cX9_isWay 1 (some .boolean) := ⟨rfl, rfl, rfl, rfl, by decide, wd_1309, by decide +kernel, by decide +kernel⟩
theorem cal_C_isFeature : mCal 174 yX9_isFeature cX9_isFeature 1 (some .boolean) := ⟨rfl, rfl, rfl, rfl, by decide, wd_1310, by decide +kernel, by decide +kernel⟩
theorem cal_C_byMode : mCal 175 yX9_byMode cX9_byMode 3 (some .int) := ⟨rfl, rfl, rfl, rfl, by decide, wd_1311, by decide +kernel, by decide +kernel⟩
theorem cal_C_isVariable : mCal 176 yX9_isVariable cX9_isVariable 1 (some .boolean) := ⟨rfl, rfl, rfl, rfl, by decide, wd_1312, by decide +kernel, by decide +kernel⟩
theorem cal_C_termsBehind : mCal 177 yX9_termsBehind cX9_termsBehind 1 (some .int) := ⟨rfl, rfl, rfl, rfl, by decide, wd_1313, by decide +kernel, by decide +kernel⟩
theorem cal_C_clauseOf : mCal 178 yX9_clauseOf cX9_clauseOf 2 (some (.object "ClauseIndex$Clause")) := ⟨rfl, rfl, rfl, rfl, by decide, wd_1314, by decide +kernel, by decide +kernel⟩
theorem cal_C_change : mCal 179 yX9_change cX9_change 3 none := ⟨rfl, rfl, rfl, rfl, by decide, wd_1315, by decide +kernel, by decide +kernel⟩
theorem cal_C_changeOrder : mCal 180 yX9_changeOrder cX9_changeOrder 2 none := ⟨rfl, rfl, rfl, rfl, by decide, wd_1316, by decide +kernel, by decide +kernel⟩
theorem cal_C_forgetRelations : mCal 181 yX9_forgetRelations cX9_forgetRelations 1 none := ⟨rfl, rfl, rfl, rfl, by decide, wd_1317, by decide +kernel, by decide +kernel⟩
theorem cal_C_relation : mCal 182 yX9_relation cX9_relation 7 (some (.object "ClauseIndex$Relation")) := ⟨rfl, rfl, rfl, rfl, by decide, wd_1318, by decide +kernel, by decide +kernel⟩
theorem cal_C_fewest : mCal 183 yX9_fewest cX9_fewest 5 (some .int) := ⟨rfl, rfl, rfl, rfl, by decide, wd_1319, by decide +kernel, by decide +kernel⟩
theorem cal_C_makeSame : mCal 184 yX9_makeSame cX9_makeSame 7 (some .int) := ⟨rfl, rfl, rfl, rfl, by decide, wd_1320, by decide +kernel, by decide +kernel⟩
theorem cal_C_makeSameSymbol : mCal 185 yX9_makeSameSymbol cX9_makeSameSymbol 5 (some .int) := ⟨rfl, rfl, rfl, rfl, by decide, wd_1321, by decide +kernel, by decide +kernel⟩
theorem cal_C_putWithin : mCal 186 yX9_putWithin cX9_putWithin 5 (some .int) := ⟨rfl, rfl, rfl, rfl, by decide, wd_1322, by decide +kernel, by decide +kernel⟩
theorem cal_C_judged : mCal 187 yX9_judged cX9_judged 6 (some .int) := ⟨rfl, rfl, rfl, rfl, by decide, wd_1323, by decide +kernel, by decide +kernel⟩
theorem cal_C_pick : mCal 188 yX9_pick cX9_pick 4 (some .int) := ⟨rfl, rfl, rfl, rfl, by decide, wd_1324, by decide +kernel, by decide +kernel⟩
theorem cal_C_isDouble : mCal 189 yX9_isDouble cX9_isDouble 5 (some .boolean) := ⟨rfl, rfl, rfl, rfl, by decide, wd_1325, by decide +kernel, by decide +kernel⟩
theorem cal_C_floatBits : mCal 190 yX9_floatBits cX9_floatBits 7 (some .int) := ⟨rfl, rfl, rfl, rfl, by decide, wd_1326, by decide +kernel, by decide +kernel⟩
theorem cal_N_within : mCal 191 yX10_within cX10_within 6 (some .boolean) := ⟨rfl, rfl, rfl, rfl, by decide, wd_1327, by decide +kernel, by decide +kernel⟩
theorem cal_N_init : mCal 192 yX10_init cX10_init 1 none := ⟨rfl, rfl, rfl, rfl, by decide, wd_1328, by decide +kernel, by decide +kernel⟩
theorem cal_N_isClause : mCal 193 yX10_isClause cX10_isClause 2 (some .boolean) := ⟨rfl, rfl, rfl, rfl, by decide, wd_1329, by decide +kernel, by decide +kernel⟩
theorem cal_N_isKept : mCal 194 yX10_isKept cX10_isKept 2 (some .boolean) := ⟨rfl, rfl, rfl, rfl, by decide, wd_1330, by decide +kernel, by decide +kernel⟩
theorem cal_N_longOf : mCal 195 yX10_longOf cX10_longOf 2 (some .int) := ⟨rfl, rfl, rfl, rfl, by decide, wd_1331, by decide +kernel, by decide +kernel⟩
theorem cal_N_codeAt : mCal 196 yX10_codeAt cX10_codeAt 3 (some .int) := ⟨rfl, rfl, rfl, rfl, by decide, wd_1332, by decide +kernel, by decide +kernel⟩
theorem cal_N_keptMany : mCal 197 yX10_keptMany cX10_keptMany 3 (some .int) := ⟨rfl, rfl, rfl, rfl, by decide, wd_1333, by decide +kernel, by decide +kernel⟩
theorem cal_N_partsOf : mCal 198 yX10_partsOf cX10_partsOf 1 (some .int) := ⟨rfl, rfl, rfl, rfl, by decide, wd_1334, by decide +kernel, by decide +kernel⟩
theorem cal_N_pastOf : mCal 199 yX10_pastOf cX10_pastOf 5 (some .int) := ⟨rfl, rfl, rfl, rfl, by decide, wd_1335, by decide +kernel, by decide +kernel⟩
theorem cal_N_literalMany : mCal 200 yX10_literalMany cX10_literalMany 4 (some .int) := ⟨rfl, rfl, rfl, rfl, by decide, wd_1336, by decide +kernel, by decide +kernel⟩
theorem cal_N_beginOf : mCal 201 yX10_beginOf cX10_beginOf 5 (some .int) := ⟨rfl, rfl, rfl, rfl, by decide, wd_1337, by decide +kernel, by decide +kernel⟩
theorem cal_N_feed : mCal 202 yX10_feed cX10_feed 8 (some .int) := ⟨rfl, rfl, rfl, rfl, by decide, wd_1338, by decide +kernel, by decide +kernel⟩
theorem cal_N_see : mCal 203 yX10_see cX10_see 1 (some .int) := ⟨rfl, rfl, rfl, rfl, by decide, wd_1339, by decide +kernel, by decide +kernel⟩
theorem cal_N_fails : mCal 204 yX10_fails cX10_fails 2 none := ⟨rfl, rfl, rfl, rfl, by decide, wd_1340, by decide +kernel, by decide +kernel⟩
theorem cal_N_eats : mCal 205 yX10_eats cX10_eats 2 (some .boolean) := ⟨rfl, rfl, rfl, rfl, by decide, wd_1341, by decide +kernel, by decide +kernel⟩
theorem cal_N_wants : mCal 206 yX10_wants cX10_wants 2 none := ⟨rfl, rfl, rfl, rfl, by decide, wd_1342, by decide +kernel, by decide +kernel⟩
theorem cal_N_lays : mCal 207 yX10_lays cX10_lays 2 none := ⟨rfl, rfl, rfl, rfl, by decide, wd_1343, by decide +kernel, by decide +kernel⟩
theorem cal_N_termCode : mCal 208 yX10_termCode cX10_termCode 1 (some .int) := ⟨rfl, rfl, rfl, rfl, by decide, wd_1344, by decide +kernel, by decide +kernel⟩
theorem cal_N_readTerm : mCal 209 yX10_readTerm cX10_readTerm 2 none := ⟨rfl, rfl, rfl, rfl, by decide, wd_1345, by decide +kernel, by decide +kernel⟩
theorem cal_N_readParts : mCal 210 yX10_readParts cX10_readParts 2 none := ⟨rfl, rfl, rfl, rfl, by decide, wd_1346, by decide +kernel, by decide +kernel⟩
theorem cal_N_readLiteral : mCal 211 yX10_readLiteral cX10_readLiteral 4 none := ⟨rfl, rfl, rfl, rfl, by decide, wd_1347, by decide +kernel, by decide +kernel⟩
theorem cal_N_begins : mCal 212 yX10_begins cX10_begins 2 none := ⟨rfl, rfl, rfl, rfl, by decide, wd_1348, by decide +kernel, by decide +kernel⟩
theorem cal_N_ends : mCal 213 yX10_ends cX10_ends 1 none := ⟨rfl, rfl, rfl, rfl, by decide, wd_1349, by decide +kernel, by decide +kernel⟩
theorem cal_N_readsClause : mCal 214 yX10_readsClause cX10_readsClause 3 none := ⟨rfl, rfl, rfl, rfl, by decide, wd_1350, by decide +kernel, by decide +kernel⟩
theorem cal_N_keeps : mCal 215 yX10_keeps cX10_keeps 3 none := ⟨rfl, rfl, rfl, rfl, by decide, wd_1351, by decide +kernel, by decide +kernel⟩
theorem cal_N_lowestFree : mCal 216 yX10_lowestFree cX10_lowestFree 2 (some .int) := ⟨rfl, rfl, rfl, rfl, by decide, wd_1352, by decide +kernel, by decide +kernel⟩
theorem cal_N_add : mCal 217 yX10_add cX10_add 3 (some .int) := ⟨rfl, rfl, rfl, rfl, by decide, wd_1353, by decide +kernel, by decide +kernel⟩
theorem cal_N_query : mCal 218 yX10_query cX10_query 2 (some .int) := ⟨rfl, rfl, rfl, rfl, by decide, wd_1354, by decide +kernel, by decide +kernel⟩
theorem cal_N_puts : mCal 219 yX10_puts cX10_puts 2 none := ⟨rfl, rfl, rfl, rfl, by decide, wd_1355, by decide +kernel, by decide +kernel⟩
theorem cal_N_isShallow : mCal 220 yX10_isShallow cX10_isShallow 4 (some .boolean) := ⟨rfl, rfl, rfl, rfl, by decide, wd_1356, by decide +kernel, by decide +kernel⟩
theorem cal_N_pastOfPut : mCal 221 yX10_pastOfPut cX10_pastOfPut 4 (some .int) := ⟨rfl, rfl, rfl, rfl, by decide, wd_1357, by decide +kernel, by decide +kernel⟩
theorem cal_N_apply : mCal 222 yX10_apply cX10_apply 5 (some .int) := ⟨rfl, rfl, rfl, rfl, by decide, wd_1358, by decide +kernel, by decide +kernel⟩
theorem cal_N_fault : mCal 223 yX10_fault cX10_fault 2 (some .int) := ⟨rfl, rfl, rfl, rfl, by decide, wd_1359, by decide +kernel, by decide +kernel⟩
theorem cal_N_copies : mCal 224 yX10_copies cX10_copies 4 none := ⟨rfl, rfl, rfl, rfl, by decide, wd_1360, by decide +kernel, by decide +kernel⟩
theorem cal_N_take : mCal 225 yX10_take cX10_take 2 (some .int) := ⟨rfl, rfl, rfl, rfl, by decide, wd_1361, by decide +kernel, by decide +kernel⟩
theorem cal_N_keep : mCal 226 yX10_keep cX10_keep 2 (some .int) := ⟨rfl, rfl, rfl, rfl, by decide, wd_1362, by decide +kernel, by decide +kernel⟩
theorem cal_N_goes : mCal 227 yX10_goes cX10_goes 3 none := ⟨rfl, rfl, rfl, rfl, by decide, wd_1363, by decide +kernel, by decide +kernel⟩
theorem cal_N_remove : mCal 228 yX10_remove cX10_remove 2 (some .int) := ⟨rfl, rfl, rfl, rfl, by decide, wd_1364, by decide +kernel, by decide +kernel⟩
theorem cal_N_notes : mCal 229 yX10_notes cX10_notes 2 none := ⟨rfl, rfl, rfl, rfl, by decide, wd_1365, by decide +kernel, by decide +kernel⟩
theorem cal_N_undo : mCal 230 yX10_undo cX10_undo 3 (some .int) := ⟨rfl, rfl, rfl, rfl, by decide, wd_1366, by decide +kernel, by decide +kernel⟩
theorem cal_N_image : mCal 231 yX10_image cX10_image 3 (some .int) := ⟨rfl, rfl, rfl, rfl, by decide, wd_1367, by decide +kernel, by decide +kernel⟩
theorem cal_N_restore : mCal 232 yX10_restore cX10_restore 3 (some .int) := ⟨rfl, rfl, rfl, rfl, by decide, wd_1368, by decide +kernel, by decide +kernel⟩
theorem cal_N_literals : mCal 233 yX10_literals cX10_literals 2 (some .int) := ⟨rfl, rfl, rfl, rfl, by decide, wd_1369, by decide +kernel, by decide +kernel⟩
theorem cal_N_literal : mCal 234 yX10_literal cX10_literal 6 (some .int) := ⟨rfl, rfl, rfl, rfl, by decide, wd_1370, by decide +kernel, by decide +kernel⟩
theorem cal_N_code : mCal 235 yX10_code cX10_code 3 (some .int) := ⟨rfl, rfl, rfl, rfl, by decide, wd_1371, by decide +kernel, by decide +kernel⟩
theorem cal_N_isVariable : mCal 236 yX10_isVariable cX10_isVariable 1 (some .boolean) := ⟨rfl, rfl, rfl, rfl, by decide, wd_1372, by decide +kernel, by decide +kernel⟩
theorem cal_N_variablesOf : mCal 237 yX10_variablesOf cX10_variablesOf 4 (some .int) := ⟨rfl, rfl, rfl, rfl, by decide, wd_1373, by decide +kernel, by decide +kernel⟩
theorem cal_N_variables : mCal 238 yX10_variables cX10_variables 2 (some .int) := ⟨rfl, rfl, rfl, rfl, by decide, wd_1374, by decide +kernel, by decide +kernel⟩
theorem cal_N_areSame : mCal 239 yX10_areSame cX10_areSame 7 (some .boolean) := ⟨rfl, rfl, rfl, rfl, by decide, wd_1375, by decide +kernel, by decide +kernel⟩
theorem cal_N_always : mCal 240 yX10_always cX10_always 7 (some .int) := ⟨rfl, rfl, rfl, rfl, by decide, wd_1376, by decide +kernel, by decide +kernel⟩
theorem cal_N_matches : mCal 241 yX10_matches cX10_matches 12 (some .boolean) := ⟨rfl, rfl, rfl, rfl, by decide, wd_1377, by decide +kernel, by decide +kernel⟩
theorem cal_N_isRenaming : mCal 242 yX10_isRenaming cX10_isRenaming 6 (some .boolean) := ⟨rfl, rfl, rfl, rfl, by decide, wd_1378, by decide +kernel, by decide +kernel⟩
theorem cal_N_counts : mCal 243 yX10_counts cX10_counts 3 none := ⟨rfl, rfl, rfl, rfl, by decide, wd_1379, by decide +kernel, by decide +kernel⟩
theorem cal_N_goesWays : mCal 244 yX10_goesWays cX10_goesWays 5 none := ⟨rfl, rfl, rfl, rfl, by decide, wd_1380, by decide +kernel, by decide +kernel⟩
theorem cal_N_waysTo : mCal 245 yX10_waysTo cX10_waysTo 7 (some .int) := ⟨rfl, rfl, rfl, rfl, by decide, wd_1381, by decide +kernel, by decide +kernel⟩
theorem cal_N_doesCover : mCal 246 yX10_doesCover cX10_doesCover 4 (some .boolean) := ⟨rfl, rfl, rfl, rfl, by decide, wd_1382, by decide +kernel, by decide +kernel⟩
theorem cal_N_areAlike : mCal 247 yX10_areAlike cX10_areAlike 3 (some .boolean) := ⟨rfl, rfl, rfl, rfl, by decide, wd_1383, by decide +kernel, by decide +kernel⟩
theorem cal_N_isMode : mCal 248 yX10_isMode cX10_isMode 1 (some .boolean) := ⟨rfl, rfl, rfl, rfl, by decide, wd_1384, by decide +kernel, by decide +kernel⟩
theorem cal_N_areTold : mCal 249 yX10_areTold cX10_areTold 4 (some .boolean) := ⟨rfl, rfl, rfl, rfl, by decide, wd_1385, by decide +kernel, by decide +kernel⟩
theorem cal_N_covers : mCal 250 yX10_covers cX10_covers 4 (some .int) := ⟨rfl, rfl, rfl, rfl, by decide, wd_1386, by decide +kernel, by decide +kernel⟩
theorem cal_N_ways : mCal 251 yX10_ways cX10_ways 4 (some .int) := ⟨rfl, rfl, rfl, rfl, by decide, wd_1387, by decide +kernel, by decide +kernel⟩
theorem cal_N_way : mCal 252 yX10_way cX10_way 5 (some .int) := ⟨rfl, rfl, rfl, rfl, by decide, wd_1388, by decide +kernel, by decide +kernel⟩
theorem cal_N_bound : mCal 253 yX10_bound cX10_bound 7 (some .int) := ⟨rfl, rfl, rfl, rfl, by decide, wd_1389, by decide +kernel, by decide +kernel⟩
theorem cal_N_alike : mCal 254 yX10_alike cX10_alike 3 (some .int) := ⟨rfl, rfl, rfl, rfl, by decide, wd_1390, by decide +kernel, by decide +kernel⟩
theorem cal_N_single : mCal 255 yX10_single cX10_single 6 (some .int) := ⟨rfl, rfl, rfl, rfl, by decide, wd_1391, by decide +kernel, by decide +kernel⟩
theorem cal_N_putBegin : mCal 256 yX10_putBegin cX10_putBegin 4 (some .int) := ⟨rfl, rfl, rfl, rfl, by decide, wd_1392, by decide +kernel, by decide +kernel⟩
theorem cal_N_putsTerm : mCal 257 yX10_putsTerm cX10_putsTerm 7 (some .int) := ⟨rfl, rfl, rfl, rfl, by decide, wd_1393, by decide +kernel, by decide +kernel⟩
theorem cal_N_unites : mCal 258 yX10_unites cX10_unites 9 (some .int) := ⟨rfl, rfl, rfl, rfl, by decide, wd_1394, by decide +kernel, by decide +kernel⟩
theorem cal_N_factor : mCal 259 yX10_factor cX10_factor 8 (some .int) := ⟨rfl, rfl, rfl, rfl, by decide, wd_1395, by decide +kernel, by decide +kernel⟩
theorem cal_N_bitsOf : mCal 260 yX10_bitsOf cX10_bitsOf 3 (some .int) := ⟨rfl, rfl, rfl, rfl, by decide, wd_1396, by decide +kernel, by decide +kernel⟩
theorem cal_N_condensed : mCal 261 yX10_condensed cX10_condensed 5 (some .int) := ⟨rfl, rfl, rfl, rfl, by decide, wd_1397, by decide +kernel, by decide +kernel⟩
theorem cal_N_valueOf : mCal 262 yX10_valueOf cX10_valueOf 9 (some .int) := ⟨rfl, rfl, rfl, rfl, by decide, wd_1398, by decide +kernel, by decide +kernel⟩
theorem cal_N_depthOf : mCal 263 yX10_depthOf cX10_depthOf 5 (some .int) := ⟨rfl, rfl, rfl, rfl, by decide, wd_1399, by decide +kernel, by decide +kernel⟩
theorem cal_N_isFeature : mCal 264 yX10_isFeature cX10_isFeature 1 (some .boolean) := ⟨rfl, rfl, rfl, rfl, by decide, wd_1400, by decide +kernel, by decide +kernel⟩
theorem cal_N_laysValues : mCal 265 yX10_laysValues cX10_laysValues 4 none := ⟨rfl, rfl, rfl, rfl, by decide, wd_1401, by decide +kernel, by decide +kernel⟩
theorem cal_N_powerNow : mCal 266 yX10_powerNow cX10_powerNow 5 (some .int) := ⟨rfl, rfl, rfl, rfl, by decide, wd_1402, by decide +kernel, by decide +kernel⟩
theorem cal_N_value : mCal 267 yX10_value cX10_value 4 (some .int) := ⟨rfl, rfl, rfl, rfl, by decide, wd_1403, by decide +kernel, by decide +kernel⟩
theorem cal_N_power : mCal 268 yX10_power cX10_power 3 (some .int) := ⟨rfl, rfl, rfl, rfl, by decide, wd_1404, by decide +kernel, by decide +kernel⟩
theorem cal_N_choose : mCal 269 yX10_choose cX10_choose 7 (some .int) := ⟨rfl, rfl, rfl, rfl, by decide, wd_1405, by decide +kernel, by decide +kernel⟩
theorem cal_N_pairsWith : mCal 270 yX10_pairsWith cX10_pairsWith 8 (some .int) := ⟨rfl, rfl, rfl, rfl, by decide, wd_1406, by decide +kernel, by decide +kernel⟩
theorem cal_N_isChosen : mCal 271 yX10_isChosen cX10_isChosen 4 (some .boolean) := ⟨rfl, rfl, rfl, rfl, by decide, wd_1407, by decide +kernel, by decide +kernel⟩
theorem cal_N_greedy : mCal 272 yX10_greedy cX10_greedy 8 (some .int) := ⟨rfl, rfl, rfl, rfl, by decide, wd_1408, by decide +kernel, by decide +kernel⟩
theorem cal_N_lay : mCal 273 yX10_lay cX10_lay 3 (some .int) := ⟨rfl, rfl, rfl, rfl, by decide, wd_1409, by decide +kernel, by decide +kernel⟩
theorem cal_N_unlay : mCal 274 yX10_unlay cX10_unlay 1 (some .int) := ⟨rfl, rfl, rfl, rfl, by decide, wd_1410, by decide +kernel, by decide +kernel⟩
theorem cal_N_order : mCal 275 yX10_order cX10_order 2 (some .int) := ⟨rfl, rfl, rfl, rfl, by decide, wd_1411, by decide +kernel, by decide +kernel⟩
theorem cal_N_firstUnlike : mCal 276 yX10_firstUnlike cX10_firstUnlike 4 (some .int) := ⟨rfl, rfl, rfl, rfl, by decide, wd_1412, by decide +kernel, by decide +kernel⟩
theorem cal_N_isAhead : mCal 277 yX10_isAhead cX10_isAhead 4 (some .boolean) := ⟨rfl, rfl, rfl, rfl, by decide, wd_1413, by decide +kernel, by decide +kernel⟩
theorem cal_N_laysNode : mCal 278 yX10_laysNode cX10_laysNode 4 none := ⟨rfl, rfl, rfl, rfl, by decide, wd_1414, by decide +kernel, by decide +kernel⟩
theorem cal_N_laysTree : mCal 279 yX10_laysTree cX10_laysTree 6 none := ⟨rfl, rfl, rfl, rfl, by decide, wd_1415, by decide +kernel, by decide +kernel⟩
theorem cal_N_nodes : mCal 280 yX10_nodes cX10_nodes 1 (some .int) := ⟨rfl, rfl, rfl, rfl, by decide, wd_1416, by decide +kernel, by decide +kernel⟩
theorem cal_N_node : mCal 281 yX10_node cX10_node 3 (some .int) := ⟨rfl, rfl, rfl, rfl, by decide, wd_1417, by decide +kernel, by decide +kernel⟩
theorem cal_N_at : mCal 282 yX10_at cX10_at 2 (some .int) := ⟨rfl, rfl, rfl, rfl, by decide, wd_1418, by decide +kernel, by decide +kernel⟩
theorem cal_N_byMode : mCal 283 yX10_byMode cX10_byMode 3 (some .int) := ⟨rfl, rfl, rfl, rfl, by decide, wd_1419, by decide +kernel, by decide +kernel⟩
theorem cal_N_laysVisited : mCal 284 yX10_laysVisited cX10_laysVisited 9 (some .int) := ⟨rfl, rfl, rfl, rfl, by decide, wd_1420, by decide +kernel, by decide +kernel⟩
theorem cal_N_visited : mCal 285 yX10_visited cX10_visited 3 (some .int) := ⟨rfl, rfl, rfl, rfl, by decide, wd_1421, by decide +kernel, by decide +kernel⟩
theorem cal_N_total : mCal 286 yX10_total cX10_total 5 (some .int) := ⟨rfl, rfl, rfl, rfl, by decide, wd_1422, by decide +kernel, by decide +kernel⟩
theorem cal_N_candidates : mCal 287 yX10_candidates cX10_candidates 5 (some .int) := ⟨rfl, rfl, rfl, rfl, by decide, wd_1423, by decide +kernel, by decide +kernel⟩
theorem cal_N_told : mCal 288 yX10_told cX10_told 4 (some .int) := ⟨rfl, rfl, rfl, rfl, by decide, wd_1424, by decide +kernel, by decide +kernel⟩
theorem cal_N_forward : mCal 289 yX10_forward cX10_forward 5 (some .int) := ⟨rfl, rfl, rfl, rfl, by decide, wd_1425, by decide +kernel, by decide +kernel⟩
theorem cal_N_backward : mCal 290 yX10_backward cX10_backward 5 (some .int) := ⟨rfl, rfl, rfl, rfl, by decide, wd_1426, by decide +kernel, by decide +kernel⟩
theorem cal_N_isNoneAbove : mCal 291 yX10_isNoneAbove cX10_isNoneAbove 4 (some .boolean) := ⟨rfl, rfl, rfl, rfl, by decide, wd_1427, by decide +kernel, by decide +kernel⟩
theorem cal_N_pairsNow : mCal 292 yX10_pairsNow cX10_pairsNow 6 (some .int) := ⟨rfl, rfl, rfl, rfl, by decide, wd_1428, by decide +kernel, by decide +kernel⟩
theorem cal_N_pairs : mCal 293 yX10_pairs cX10_pairs 3 (some .int) := ⟨rfl, rfl, rfl, rfl, by decide, wd_1429, by decide +kernel, by decide +kernel⟩
theorem cal_N_floatBits : mCal 294 yX10_floatBits cX10_floatBits 9 (some .int) := ⟨rfl, rfl, rfl, rfl, by decide, wd_1430, by decide +kernel, by decide +kernel⟩
theorem cal_N_rate : mCal 295 yX10_rate cX10_rate 2 (some .int) := ⟨rfl, rfl, rfl, rfl, by decide, wd_1431, by decide +kernel, by decide +kernel⟩
theorem cal_N_pairsBy : mCal 296 yX10_pairsBy cX10_pairsBy 6 (some .int) := ⟨rfl, rfl, rfl, rfl, by decide, wd_1432, by decide +kernel, by decide +kernel⟩
theorem cal_N_best : mCal 297 yX10_best cX10_best 9 (some .int) := ⟨rfl, rfl, rfl, rfl, by decide, wd_1433, by decide +kernel, by decide +kernel⟩
theorem cal_N_laysCovering : mCal 298 yX10_laysCovering cX10_laysCovering 4 none := ⟨rfl, rfl, rfl, rfl, by decide, wd_1434, by decide +kernel, by decide +kernel⟩
theorem cal_N_isMoreGeneral : mCal 299 yX10_isMoreGeneral cX10_isMoreGeneral 3 (some .boolean) := ⟨rfl, rfl, rfl, rfl, by decide, wd_1435, by decide +kernel, by decide +kernel⟩
theorem cal_N_redundantNow : mCal 300 yX10_redundantNow cX10_redundantNow 5 (some .int) := ⟨rfl, rfl, rfl, rfl, by decide, wd_1436, by decide +kernel, by decide +kernel⟩
theorem cal_N_redundant : mCal 301 yX10_redundant cX10_redundant 2 (some .int) := ⟨rfl, rfl, rfl, rfl, by decide, wd_1437, by decide +kernel, by decide +kernel⟩
theorem cal_N_clean : mCal 302 yX10_clean cX10_clean 5 (some .int) := ⟨rfl, rfl, rfl, rfl, by decide, wd_1438, by decide +kernel, by decide +kernel⟩
theorem cal_N_tops : mCal 303 yX10_tops cX10_tops 6 (some .int) := ⟨rfl, rfl, rfl, rfl, by decide, wd_1439, by decide +kernel, by decide +kernel⟩
theorem cal_N_laysChains : mCal 304 yX10_laysChains cX10_laysChains 4 (some .int) := ⟨rfl, rfl, rfl, rfl, by decide, wd_1440, by decide +kernel, by decide +kernel⟩
theorem cal_N_chain : mCal 305 yX10_chain cX10_chain 7 (some .int) := ⟨rfl, rfl, rfl, rfl, by decide, wd_1441, by decide +kernel, by decide +kernel⟩
theorem cal_N_parts : mCal 306 yX10_parts cX10_parts 6 (some .int) := ⟨rfl, rfl, rfl, rfl, by decide, wd_1442, by decide +kernel, by decide +kernel⟩
theorem cal_N_doubles : mCal 307 yX10_doubles cX10_doubles 5 (some .int) := ⟨rfl, rfl, rfl, rfl, by decide, wd_1443, by decide +kernel, by decide +kernel⟩
theorem cal_N_count : mCal 308 yX10_count cX10_count 4 (some .int) := ⟨rfl, rfl, rfl, rfl, by decide, wd_1444, by decide +kernel, by decide +kernel⟩
theorem cal_Ji_bitCount : mCal 309 yJ6_bitCount_0f7a4 cJ6_bitCount_0f7a4 1 (some .int) := ⟨rfl, rfl, rfl, rfl, by decide, wd_1445, by decide +kernel, by decide +kernel⟩
theorem cal_Jm_floorMod : mCal 310 yJ9_floorMod_7cf53 cJ9_floorMod_7cf53 3 (some .int) := ⟨rfl, rfl, rfl, rfl, by decide, wd_1446, by decide +kernel, by decide +kernel⟩
theorem cal_Jm_max : mCal 311 yJ9_max_7cf53 cJ9_max_7cf53 2 (some .int) := ⟨rfl, rfl, rfl, rfl, by decide, wd_1447, by decide +kernel, by decide +kernel⟩
theorem cal_Jm_min : mCal 312 yJ9_min_7cf53 cJ9_min_7cf53 2 (some .int) := ⟨rfl, rfl, rfl, rfl, by decide, wd_1448, by decide +kernel, by decide +kernel⟩
