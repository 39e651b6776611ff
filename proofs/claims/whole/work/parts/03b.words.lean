/-! The words that the program needs, by their places. -/

theorem lk_1 {w : Cond} (h : w ∈ tables_1_1) (g : goodWord w = true) : w ∈ mGd := List.mem_filter.mpr ⟨List.mem_append_right _ (show w ∈ tables_1 from List.mem_append_left _ h), g⟩

theorem ll_1 {w : Cond} (h : w ∈ tables_1_1) : w ∈ lw_tbl := List.mem_append_right _ (show w ∈ tables_1 from List.mem_append_left _ h)

theorem lk_2 {w : Cond} (h : w ∈ tables_1_2) (g : goodWord w = true) : w ∈ mGd := List.mem_filter.mpr ⟨List.mem_append_right _ (show w ∈ tables_1 from List.mem_append_right _ (List.mem_append_left _ h)), g⟩

theorem ll_2 {w : Cond} (h : w ∈ tables_1_2) : w ∈ lw_tbl := List.mem_append_right _ (show w ∈ tables_1 from List.mem_append_right _ (List.mem_append_left _ h))

theorem lk_3 {w : Cond} (h : w ∈ tables_1_3) (g : goodWord w = true) : w ∈ mGd := List.mem_filter.mpr ⟨List.mem_append_right _ (show w ∈ tables_1 from List.mem_append_right _ (List.mem_append_right _ (List.mem_append_left _ h))), g⟩

theorem ll_3 {w : Cond} (h : w ∈ tables_1_3) : w ∈ lw_tbl := List.mem_append_right _ (show w ∈ tables_1 from List.mem_append_right _ (List.mem_append_right _ (List.mem_append_left _ h)))

theorem lk_4 {w : Cond} (h : w ∈ tables_1_4) (g : goodWord w = true) : w ∈ mGd := List.mem_filter.mpr ⟨List.mem_append_right _ (show w ∈ tables_1 from List.mem_append_right _ (List.mem_append_right _ (List.mem_append_right _ (List.mem_append_left _ h)))), g⟩

theorem ll_4 {w : Cond} (h : w ∈ tables_1_4) : w ∈ lw_tbl := List.mem_append_right _ (show w ∈ tables_1 from List.mem_append_right _ (List.mem_append_right _ (List.mem_append_right _ (List.mem_append_left _ h))))

theorem lk_5 {w : Cond} (h : w ∈ tables_1_5) (g : goodWord w = true) : w ∈ mGd := List.mem_filter.mpr ⟨List.mem_append_right _ (show w ∈ tables_1 from List.mem_append_right _ (List.mem_append_right _ (List.mem_append_right _ (List.mem_append_right _ (List.mem_append_left _ h))))), g⟩

theorem ll_5 {w : Cond} (h : w ∈ tables_1_5) : w ∈ lw_tbl := List.mem_append_right _ (show w ∈ tables_1 from List.mem_append_right _ (List.mem_append_right _ (List.mem_append_right _ (List.mem_append_right _ (List.mem_append_left _ h)))))

theorem lk_6 {w : Cond} (h : w ∈ tables_1_6) (g : goodWord w = true) : w ∈ mGd := List.mem_filter.mpr ⟨List.mem_append_right _ (show w ∈ tables_1 from List.mem_append_right _ (List.mem_append_right _ (List.mem_append_right _ (List.mem_append_right _ (List.mem_append_right _ (List.mem_append_left _ h)))))), g⟩

theorem ll_6 {w : Cond} (h : w ∈ tables_1_6) : w ∈ lw_tbl := List.mem_append_right _ (show w ∈ tables_1 from List.mem_append_right _ (List.mem_append_right _ (List.mem_append_right _ (List.mem_append_right _ (List.mem_append_right _ (List.mem_append_left _ h))))))

theorem lk_7 {w : Cond} (h : w ∈ tables_1_7) (g : goodWord w = true) : w ∈ mGd := List.mem_filter.mpr ⟨List.mem_append_right _ (show w ∈ tables_1 from List.mem_append_right _ (List.mem_append_right _ (List.mem_append_right _ (List.mem_append_right _ (List.mem_append_right _ (List.mem_append_right _ (List.mem_append_left _ h))))))), g⟩

theorem ll_7 {w : Cond} (h : w ∈ tables_1_7) : w ∈ lw_tbl := List.mem_append_right _ (show w ∈ tables_1 from List.mem_append_right _ (List.mem_append_right _ (List.mem_append_right _ (List.mem_append_right _ (List.mem_append_right _ (List.mem_append_right _ (List.mem_append_left _ h)))))))

theorem lk_8 {w : Cond} (h : w ∈ tables_1_8) (g : goodWord w = true) : w ∈ mGd := List.mem_filter.mpr ⟨List.mem_append_right _ (show w ∈ tables_1 from List.mem_append_right _ (List.mem_append_right _ (List.mem_append_right _ (List.mem_append_right _ (List.mem_append_right _ (List.mem_append_right _ (List.mem_append_right _ (List.mem_append_left _ h)))))))), g⟩

theorem ll_8 {w : Cond} (h : w ∈ tables_1_8) : w ∈ lw_tbl := List.mem_append_right _ (show w ∈ tables_1 from List.mem_append_right _ (List.mem_append_right _ (List.mem_append_right _ (List.mem_append_right _ (List.mem_append_right _ (List.mem_append_right _ (List.mem_append_right _ (List.mem_append_left _ h))))))))

theorem lk_9 {w : Cond} (h : w ∈ tables_1_9) (g : goodWord w = true) : w ∈ mGd := List.mem_filter.mpr ⟨List.mem_append_right _ (show w ∈ tables_1 from List.mem_append_right _ (List.mem_append_right _ (List.mem_append_right _ (List.mem_append_right _ (List.mem_append_right _ (List.mem_append_right _ (List.mem_append_right _ (List.mem_append_right _ (h))))))))), g⟩

theorem ll_9 {w : Cond} (h : w ∈ tables_1_9) : w ∈ lw_tbl := List.mem_append_right _ (show w ∈ tables_1 from List.mem_append_right _ (List.mem_append_right _ (List.mem_append_right _ (List.mem_append_right _ (List.mem_append_right _ (List.mem_append_right _ (List.mem_append_right _ (List.mem_append_right _ (h)))))))))

theorem lp_1 {q : MethodName × Nat} (h : q ∈ lw_privs_1) : Cond.selects q.1.cls q.1 q.1 ∈ mGd := List.mem_filter.mpr ⟨List.mem_append_left _ (List.mem_map.mpr ⟨q, (show q ∈ lw_privs from List.mem_append_left _ h), rfl⟩), rfl⟩

theorem lp_2 {q : MethodName × Nat} (h : q ∈ lw_privs_2) : Cond.selects q.1.cls q.1 q.1 ∈ mGd := List.mem_filter.mpr ⟨List.mem_append_left _ (List.mem_map.mpr ⟨q, (show q ∈ lw_privs from List.mem_append_right _ (List.mem_append_left _ h)), rfl⟩), rfl⟩

theorem lp_3 {q : MethodName × Nat} (h : q ∈ lw_privs_3) : Cond.selects q.1.cls q.1 q.1 ∈ mGd := List.mem_filter.mpr ⟨List.mem_append_left _ (List.mem_map.mpr ⟨q, (show q ∈ lw_privs from List.mem_append_right _ (List.mem_append_right _ (List.mem_append_left _ h))), rfl⟩), rfl⟩

theorem lp_4 {q : MethodName × Nat} (h : q ∈ lw_privs_4) : Cond.selects q.1.cls q.1 q.1 ∈ mGd := List.mem_filter.mpr ⟨List.mem_append_left _ (List.mem_map.mpr ⟨q, (show q ∈ lw_privs from List.mem_append_right _ (List.mem_append_right _ (List.mem_append_right _ (List.mem_append_left _ h)))), rfl⟩), rfl⟩

theorem lp_5 {q : MethodName × Nat} (h : q ∈ lw_privs_5) : Cond.selects q.1.cls q.1 q.1 ∈ mGd := List.mem_filter.mpr ⟨List.mem_append_left _ (List.mem_map.mpr ⟨q, (show q ∈ lw_privs from List.mem_append_right _ (List.mem_append_right _ (List.mem_append_right _ (List.mem_append_right _ (List.mem_append_left _ h))))), rfl⟩), rfl⟩

theorem lp_6 {q : MethodName × Nat} (h : q ∈ lw_privs_6) : Cond.selects q.1.cls q.1 q.1 ∈ mGd := List.mem_filter.mpr ⟨List.mem_append_left _ (List.mem_map.mpr ⟨q, (show q ∈ lw_privs from List.mem_append_right _ (List.mem_append_right _ (List.mem_append_right _ (List.mem_append_right _ (List.mem_append_right _ (List.mem_append_left _ h)))))), rfl⟩), rfl⟩

theorem lp_7 {q : MethodName × Nat} (h : q ∈ lw_privs_7) : Cond.selects q.1.cls q.1 q.1 ∈ mGd := List.mem_filter.mpr ⟨List.mem_append_left _ (List.mem_map.mpr ⟨q, (show q ∈ lw_privs from List.mem_append_right _ (List.mem_append_right _ (List.mem_append_right _ (List.mem_append_right _ (List.mem_append_right _ (List.mem_append_right _ (List.mem_append_left _ h))))))), rfl⟩), rfl⟩

theorem lp_8 {q : MethodName × Nat} (h : q ∈ lw_privs_8) : Cond.selects q.1.cls q.1 q.1 ∈ mGd := List.mem_filter.mpr ⟨List.mem_append_left _ (List.mem_map.mpr ⟨q, (show q ∈ lw_privs from List.mem_append_right _ (List.mem_append_right _ (List.mem_append_right _ (List.mem_append_right _ (List.mem_append_right _ (List.mem_append_right _ (List.mem_append_right _ (h)))))))), rfl⟩), rfl⟩

theorem gw_176 : Cond.methodLink "Collationer$Collator" (3 : Nat) ({ cls := "java/lang/Object", name := "<init>", desc := "()V" } : Jvm.MethodName) ∈ mGd := lk_1 (List.mem_of_getElem? (i := 176) rfl) rfl

theorem gw_27 : Cond.instanceMethod ({ cls := "java/lang/Object", name := "<init>", desc := "()V" } : Jvm.MethodName) ∈ mGd := lk_1 (List.mem_of_getElem? (i := 27) rfl) rfl

theorem gw_28 : Cond.code ({ cls := "java/lang/Object", name := "<init>", desc := "()V" } : Jvm.MethodName) object_method_1_code (1 : Nat) (Option.none : Option FieldType) ∈ mGd := lk_1 (List.mem_of_getElem? (i := 28) rfl) rfl

theorem gw_177 : Cond.classLink "Collationer$Collator" (9 : Nat) "Collationer$Elements" ∈ mGd := lk_1 (List.mem_of_getElem? (i := 177) rfl) rfl

theorem gw_9 : Cond.initialized "Collationer$Elements" ∈ mGd := lk_1 (List.mem_of_getElem? (i := 9) rfl) rfl

theorem gw_178 : Cond.instantiable "Collationer$Elements" (6 : Nat) ∈ mGd := lk_1 (List.mem_of_getElem? (i := 178) rfl) rfl

theorem gw_180 : Cond.instanceMethod ({ cls := "Collationer$Elements", name := "<init>", desc := "()V" } : Jvm.MethodName) ∈ mGd := lk_1 (List.mem_of_getElem? (i := 180) rfl) rfl

theorem gw_181 : Cond.code ({ cls := "Collationer$Elements", name := "<init>", desc := "()V" } : Jvm.MethodName) prog_5_method_1_code (1 : Nat) (Option.none : Option FieldType) ∈ mGd := lk_1 (List.mem_of_getElem? (i := 181) rfl) rfl

theorem gw_206 : Cond.fieldLink "Collationer$Collator" (12 : Nat) "Collationer$Collator" "elements" "LCollationer$Elements;" ∈ mGd := lk_1 (List.mem_of_getElem? (i := 206) rfl) rfl

theorem gw_207 : Cond.fieldLink "Collationer$Collator" (18 : Nat) "Collationer$Collator" "partElements" "LCollationer$Elements;" ∈ mGd := lk_1 (List.mem_of_getElem? (i := 207) rfl) rfl

theorem gw_204 : Cond.classLink "Collationer$Collator" (21 : Nat) "Collationer$Row" ∈ mGd := lk_1 (List.mem_of_getElem? (i := 204) rfl) rfl

theorem gw_3 : Cond.initialized "Collationer$Row" ∈ mGd := lk_1 (List.mem_of_getElem? (i := 3) rfl) rfl

theorem gw_47 : Cond.instantiable "Collationer$Row" (2 : Nat) ∈ mGd := lk_1 (List.mem_of_getElem? (i := 47) rfl) rfl

theorem gw_205 : Cond.methodLink "Collationer$Collator" (23 : Nat) ({ cls := "Collationer$Row", name := "<init>", desc := "(I)V" } : Jvm.MethodName) ∈ mGd := lk_1 (List.mem_of_getElem? (i := 205) rfl) rfl

theorem gw_49 : Cond.instanceMethod ({ cls := "Collationer$Row", name := "<init>", desc := "(I)V" } : Jvm.MethodName) ∈ mGd := lk_1 (List.mem_of_getElem? (i := 49) rfl) rfl

theorem gw_50 : Cond.code ({ cls := "Collationer$Row", name := "<init>", desc := "(I)V" } : Jvm.MethodName) prog_10_method_1_code (2 : Nat) (Option.none : Option FieldType) ∈ mGd := lk_1 (List.mem_of_getElem? (i := 50) rfl) rfl

theorem gw_208 : Cond.fieldLink "Collationer$Collator" (26 : Nat) "Collationer$Collator" "weights" "LCollationer$Row;" ∈ mGd := lk_1 (List.mem_of_getElem? (i := 208) rfl) rfl

theorem gw_209 : Cond.fieldLink "Collationer$Collator" (30 : Nat) "Collationer$Collator" "otherWeights" "LCollationer$Row;" ∈ mGd := lk_1 (List.mem_of_getElem? (i := 209) rfl) rfl

theorem gw_210 : Cond.fieldLink "Collationer$Collator" (33 : Nat) "Collationer$Collator" "bytes" "LCollationer$Row;" ∈ mGd := lk_1 (List.mem_of_getElem? (i := 210) rfl) rfl

theorem gw_211 : Cond.fieldLink "Collationer$Collator" (36 : Nat) "Collationer$Collator" "otherBytes" "LCollationer$Row;" ∈ mGd := lk_1 (List.mem_of_getElem? (i := 211) rfl) rfl

theorem gw_212 : Cond.fieldLink "Collationer$Collator" (39 : Nat) "Collationer$Collator" "part" "LCollationer$Row;" ∈ mGd := lk_1 (List.mem_of_getElem? (i := 212) rfl) rfl

theorem gw_724 : Cond.methodLink "Collationer$Collator" (42 : Nat) ({ cls := "Collationer$Elements", name := "gather", desc := "(LCollationer$Tailoring;LCollationer$Row;)V" } : Jvm.MethodName) ∈ mGd := lk_4 (List.mem_of_getElem? (i := 4) rfl) rfl

theorem gw_725 : Cond.instanceMethod ({ cls := "Collationer$Elements", name := "gather", desc := "(LCollationer$Tailoring;LCollationer$Row;)V" } : Jvm.MethodName) ∈ mGd := lk_4 (List.mem_of_getElem? (i := 5) rfl) rfl

theorem gw_726 : Cond.selects "Collationer$Elements" ({ cls := "Collationer$Elements", name := "gather", desc := "(LCollationer$Tailoring;LCollationer$Row;)V" } : Jvm.MethodName) ({ cls := "Collationer$Elements", name := "gather", desc := "(LCollationer$Tailoring;LCollationer$Row;)V" } : Jvm.MethodName) ∈ mGd := lk_4 (List.mem_of_getElem? (i := 6) rfl) rfl

theorem gw_727 : Cond.code ({ cls := "Collationer$Elements", name := "gather", desc := "(LCollationer$Tailoring;LCollationer$Row;)V" } : Jvm.MethodName) prog_5_method_2_code (5 : Nat) (Option.none : Option FieldType) ∈ mGd := lk_4 (List.mem_of_getElem? (i := 7) rfl) rfl

theorem gw_1202 : Cond.methodLink "Collationer$Collator" (46 : Nat) ({ cls := "Collationer$Elements", name := "weightsAt", desc := "(I)I" } : Jvm.MethodName) ∈ mGd := lk_6 (List.mem_of_getElem? (i := 2) rfl) rfl

theorem gw_1203 : Cond.instanceMethod ({ cls := "Collationer$Elements", name := "weightsAt", desc := "(I)I" } : Jvm.MethodName) ∈ mGd := lk_6 (List.mem_of_getElem? (i := 3) rfl) rfl

theorem gw_1204 : Cond.selects "Collationer$Elements" ({ cls := "Collationer$Elements", name := "weightsAt", desc := "(I)I" } : Jvm.MethodName) ({ cls := "Collationer$Elements", name := "weightsAt", desc := "(I)I" } : Jvm.MethodName) ∈ mGd := lk_6 (List.mem_of_getElem? (i := 4) rfl) rfl

theorem gw_1205 : Cond.code ({ cls := "Collationer$Elements", name := "weightsAt", desc := "(I)I" } : Jvm.MethodName) prog_5_method_10_code (2 : Nat) (Option.some FieldType.int) ∈ mGd := lk_6 (List.mem_of_getElem? (i := 5) rfl) rfl

theorem gw_791 : Cond.methodLink "Collationer$Collator" (50 : Nat) ({ cls := "Collationer$Row", name := "clear", desc := "()V" } : Jvm.MethodName) ∈ mGd := lk_4 (List.mem_of_getElem? (i := 71) rfl) rfl

theorem gw_88 : Cond.instanceMethod ({ cls := "Collationer$Row", name := "clear", desc := "()V" } : Jvm.MethodName) ∈ mGd := lk_1 (List.mem_of_getElem? (i := 88) rfl) rfl

theorem gw_89 : Cond.selects "Collationer$Row" ({ cls := "Collationer$Row", name := "clear", desc := "()V" } : Jvm.MethodName) ({ cls := "Collationer$Row", name := "clear", desc := "()V" } : Jvm.MethodName) ∈ mGd := lk_1 (List.mem_of_getElem? (i := 89) rfl) rfl

theorem gw_90 : Cond.code ({ cls := "Collationer$Row", name := "clear", desc := "()V" } : Jvm.MethodName) prog_10_method_9_code (1 : Nat) (Option.none : Option FieldType) ∈ mGd := lk_1 (List.mem_of_getElem? (i := 90) rfl) rfl

theorem gw_792 : Cond.methodLink "Collationer$Collator" (53 : Nat) ({ cls := "Collationer$Elements", name := "putLevel", desc := "(LCollationer$Tailoring;ILCollationer$Row;)V" } : Jvm.MethodName) ∈ mGd := lk_4 (List.mem_of_getElem? (i := 72) rfl) rfl

theorem gw_793 : Cond.instanceMethod ({ cls := "Collationer$Elements", name := "putLevel", desc := "(LCollationer$Tailoring;ILCollationer$Row;)V" } : Jvm.MethodName) ∈ mGd := lk_4 (List.mem_of_getElem? (i := 73) rfl) rfl

theorem gw_794 : Cond.selects "Collationer$Elements" ({ cls := "Collationer$Elements", name := "putLevel", desc := "(LCollationer$Tailoring;ILCollationer$Row;)V" } : Jvm.MethodName) ({ cls := "Collationer$Elements", name := "putLevel", desc := "(LCollationer$Tailoring;ILCollationer$Row;)V" } : Jvm.MethodName) ∈ mGd := lk_4 (List.mem_of_getElem? (i := 74) rfl) rfl

theorem gw_795 : Cond.code ({ cls := "Collationer$Elements", name := "putLevel", desc := "(LCollationer$Tailoring;ILCollationer$Row;)V" } : Jvm.MethodName) prog_5_method_12_code (10 : Nat) (Option.none : Option FieldType) ∈ mGd := lk_4 (List.mem_of_getElem? (i := 75) rfl) rfl

theorem gw_804 : Cond.methodLink "Collationer$Collator" (57 : Nat) ({ cls := "Collationer$Collator", name := "putRuns", desc := "(LCollationer$Row;LCollationer$Row;)V" } : Jvm.MethodName) ∈ mGd := lk_4 (List.mem_of_getElem? (i := 84) rfl) rfl

theorem gw_805 : Cond.static ({ cls := "Collationer$Collator", name := "putRuns", desc := "(LCollationer$Row;LCollationer$Row;)V" } : Jvm.MethodName) ∈ mGd := lk_4 (List.mem_of_getElem? (i := 85) rfl) rfl

theorem gw_806 : Cond.code ({ cls := "Collationer$Collator", name := "putRuns", desc := "(LCollationer$Row;LCollationer$Row;)V" } : Jvm.MethodName) prog_2_method_6_code (4 : Nat) (Option.none : Option FieldType) ∈ mGd := lk_4 (List.mem_of_getElem? (i := 86) rfl) rfl

theorem gw_8 : Cond.initialized "Collationer$Collator" ∈ mGd := lk_1 (List.mem_of_getElem? (i := 8) rfl) rfl

theorem gw_813 : Cond.methodLink "Collationer$Collator" (61 : Nat) ({ cls := "Collationer$Collator", name := "putRaised", desc := "(LCollationer$Row;LCollationer$Row;)V" } : Jvm.MethodName) ∈ mGd := lk_4 (List.mem_of_getElem? (i := 93) rfl) rfl

theorem gw_814 : Cond.static ({ cls := "Collationer$Collator", name := "putRaised", desc := "(LCollationer$Row;LCollationer$Row;)V" } : Jvm.MethodName) ∈ mGd := lk_4 (List.mem_of_getElem? (i := 94) rfl) rfl

theorem gw_815 : Cond.code ({ cls := "Collationer$Collator", name := "putRaised", desc := "(LCollationer$Row;LCollationer$Row;)V" } : Jvm.MethodName) prog_2_method_5_code (3 : Nat) (Option.none : Option FieldType) ∈ mGd := lk_4 (List.mem_of_getElem? (i := 95) rfl) rfl

theorem gw_812 : Cond.methodLink "Collationer$Collator" (64 : Nat) ({ cls := "Collationer$Row", name := "put", desc := "(I)V" } : Jvm.MethodName) ∈ mGd := lk_4 (List.mem_of_getElem? (i := 92) rfl) rfl

theorem gw_80 : Cond.instanceMethod ({ cls := "Collationer$Row", name := "put", desc := "(I)V" } : Jvm.MethodName) ∈ mGd := lk_1 (List.mem_of_getElem? (i := 80) rfl) rfl

theorem gw_81 : Cond.selects "Collationer$Row" ({ cls := "Collationer$Row", name := "put", desc := "(I)V" } : Jvm.MethodName) ({ cls := "Collationer$Row", name := "put", desc := "(I)V" } : Jvm.MethodName) ∈ mGd := lk_1 (List.mem_of_getElem? (i := 81) rfl) rfl

theorem gw_82 : Cond.code ({ cls := "Collationer$Row", name := "put", desc := "(I)V" } : Jvm.MethodName) prog_10_method_6_code (2 : Nat) (Option.none : Option FieldType) ∈ mGd := lk_1 (List.mem_of_getElem? (i := 82) rfl) rfl

theorem gw_808 : Cond.methodLink "Collationer$Collator" (67 : Nat) ({ cls := "Collationer$Row", name := "at", desc := "(I)I" } : Jvm.MethodName) ∈ mGd := lk_4 (List.mem_of_getElem? (i := 88) rfl) rfl

theorem gw_96 : Cond.instanceMethod ({ cls := "Collationer$Row", name := "at", desc := "(I)I" } : Jvm.MethodName) ∈ mGd := lk_1 (List.mem_of_getElem? (i := 96) rfl) rfl

theorem gw_97 : Cond.selects "Collationer$Row" ({ cls := "Collationer$Row", name := "at", desc := "(I)I" } : Jvm.MethodName) ({ cls := "Collationer$Row", name := "at", desc := "(I)I" } : Jvm.MethodName) ∈ mGd := lk_1 (List.mem_of_getElem? (i := 97) rfl) rfl

theorem gw_98 : Cond.code ({ cls := "Collationer$Row", name := "at", desc := "(I)I" } : Jvm.MethodName) prog_10_method_4_code (2 : Nat) (Option.some FieldType.int) ∈ mGd := lk_1 (List.mem_of_getElem? (i := 98) rfl) rfl

theorem gw_807 : Cond.methodLink "Collationer$Collator" (70 : Nat) ({ cls := "Collationer$Row", name := "size", desc := "()I" } : Jvm.MethodName) ∈ mGd := lk_4 (List.mem_of_getElem? (i := 87) rfl) rfl

theorem gw_92 : Cond.instanceMethod ({ cls := "Collationer$Row", name := "size", desc := "()I" } : Jvm.MethodName) ∈ mGd := lk_1 (List.mem_of_getElem? (i := 92) rfl) rfl

theorem gw_93 : Cond.selects "Collationer$Row" ({ cls := "Collationer$Row", name := "size", desc := "()I" } : Jvm.MethodName) ({ cls := "Collationer$Row", name := "size", desc := "()I" } : Jvm.MethodName) ∈ mGd := lk_1 (List.mem_of_getElem? (i := 93) rfl) rfl

theorem gw_94 : Cond.code ({ cls := "Collationer$Row", name := "size", desc := "()I" } : Jvm.MethodName) prog_10_method_2_code (1 : Nat) (Option.some FieldType.int) ∈ mGd := lk_1 (List.mem_of_getElem? (i := 94) rfl) rfl

theorem gw_809 : Cond.methodLink "Collationer$Collator" (74 : Nat) ({ cls := "Collationer$Collator", name := "putRun", desc := "(IZLCollationer$Row;)V" } : Jvm.MethodName) ∈ mGd := lk_4 (List.mem_of_getElem? (i := 89) rfl) rfl

theorem gw_810 : Cond.static ({ cls := "Collationer$Collator", name := "putRun", desc := "(IZLCollationer$Row;)V" } : Jvm.MethodName) ∈ mGd := lk_4 (List.mem_of_getElem? (i := 90) rfl) rfl

theorem gw_811 : Cond.code ({ cls := "Collationer$Collator", name := "putRun", desc := "(IZLCollationer$Row;)V" } : Jvm.MethodName) prog_2_method_7_code (4 : Nat) (Option.none : Option FieldType) ∈ mGd := lk_4 (List.mem_of_getElem? (i := 91) rfl) rfl

theorem gw_1221 : Cond.methodLink "Collationer$Collator" (78 : Nat) ({ cls := "Collationer$Collator", name := "putKey", desc := "(LCollationer$Tailoring;ILCollationer$Row;LCollationer$Row;)V" } : Jvm.MethodName) ∈ mGd := lk_6 (List.mem_of_getElem? (i := 21) rfl) rfl

theorem gw_721 : Cond.instanceMethod ({ cls := "Collationer$Collator", name := "putKey", desc := "(LCollationer$Tailoring;ILCollationer$Row;LCollationer$Row;)V" } : Jvm.MethodName) ∈ mGd := lk_4 (List.mem_of_getElem? (i := 1) rfl) rfl

theorem gw_722 : Cond.selects "Collationer$Collator" ({ cls := "Collationer$Collator", name := "putKey", desc := "(LCollationer$Tailoring;ILCollationer$Row;LCollationer$Row;)V" } : Jvm.MethodName) ({ cls := "Collationer$Collator", name := "putKey", desc := "(LCollationer$Tailoring;ILCollationer$Row;LCollationer$Row;)V" } : Jvm.MethodName) ∈ mGd := lk_4 (List.mem_of_getElem? (i := 2) rfl) rfl

theorem gw_723 : Cond.code ({ cls := "Collationer$Collator", name := "putKey", desc := "(LCollationer$Tailoring;ILCollationer$Row;LCollationer$Row;)V" } : Jvm.MethodName) prog_2_method_3_code (6 : Nat) (Option.none : Option FieldType) ∈ mGd := lk_4 (List.mem_of_getElem? (i := 3) rfl) rfl

theorem gw_837 : Cond.static ({ cls := "Collationer", name := "compareRows", desc := "(LCollationer$Row;LCollationer$Row;)I" } : Jvm.MethodName) ∈ mGd := lk_4 (List.mem_of_getElem? (i := 117) rfl) rfl

theorem gw_838 : Cond.code ({ cls := "Collationer", name := "compareRows", desc := "(LCollationer$Row;LCollationer$Row;)I" } : Jvm.MethodName) prog_1_method_66_code (4 : Nat) (Option.some FieldType.int) ∈ mGd := lk_4 (List.mem_of_getElem? (i := 118) rfl) rfl

theorem gw_1 : Cond.initialized "Collationer" ∈ mGd := lk_1 (List.mem_of_getElem? (i := 1) rfl) rfl

theorem gw_1258 : Cond.methodLink "Collationer$Collator" (86 : Nat) ({ cls := "Collationer$Collator", name := "isEdge", desc := "(LCollationer$Row;I)Z" } : Jvm.MethodName) ∈ mGd := lk_6 (List.mem_of_getElem? (i := 58) rfl) rfl

theorem gw_1260 : Cond.instanceMethod ({ cls := "Collationer$Collator", name := "isEdge", desc := "(LCollationer$Row;I)Z" } : Jvm.MethodName) ∈ mGd := lk_6 (List.mem_of_getElem? (i := 60) rfl) rfl

theorem gs_11 : Cond.selects "Collationer$Collator" ⟨"Collationer$Collator", "isEdge", "(LCollationer$Row;I)Z"⟩ ⟨"Collationer$Collator", "isEdge", "(LCollationer$Row;I)Z"⟩ ∈ mGd := lp_3 (q := (⟨"Collationer$Collator", "isEdge", "(LCollationer$Row;I)Z"⟩, 7)) (List.mem_of_getElem? (i := 4) rfl)

theorem gw_1261 : Cond.code ({ cls := "Collationer$Collator", name := "isEdge", desc := "(LCollationer$Row;I)Z" } : Jvm.MethodName) prog_2_method_12_code (3 : Nat) (Option.some FieldType.boolean) ∈ mGd := lk_6 (List.mem_of_getElem? (i := 61) rfl) rfl

theorem gw_1267 : Cond.methodLink "Collationer$Collator" (90 : Nat) ({ cls := "Collationer$Row", name := "append", desc := "(LCollationer$Row;II)V" } : Jvm.MethodName) ∈ mGd := lk_6 (List.mem_of_getElem? (i := 67) rfl) rfl

theorem gw_702 : Cond.instanceMethod ({ cls := "Collationer$Row", name := "append", desc := "(LCollationer$Row;II)V" } : Jvm.MethodName) ∈ mGd := lk_3 (List.mem_of_getElem? (i := 222) rfl) rfl

theorem gw_703 : Cond.selects "Collationer$Row" ({ cls := "Collationer$Row", name := "append", desc := "(LCollationer$Row;II)V" } : Jvm.MethodName) ({ cls := "Collationer$Row", name := "append", desc := "(LCollationer$Row;II)V" } : Jvm.MethodName) ∈ mGd := lk_3 (List.mem_of_getElem? (i := 223) rfl) rfl

theorem gw_704 : Cond.code ({ cls := "Collationer$Row", name := "append", desc := "(LCollationer$Row;II)V" } : Jvm.MethodName) prog_10_method_10_code (5 : Nat) (Option.none : Option FieldType) ∈ mGd := lk_3 (List.mem_of_getElem? (i := 224) rfl) rfl

theorem gw_537 : Cond.static ({ cls := "Collationer", name := "isMark", desc := "(I)Z" } : Jvm.MethodName) ∈ mGd := lk_3 (List.mem_of_getElem? (i := 57) rfl) rfl

theorem gw_538 : Cond.code ({ cls := "Collationer", name := "isMark", desc := "(I)Z" } : Jvm.MethodName) prog_1_method_53_code (1 : Nat) (Option.some FieldType.boolean) ∈ mGd := lk_3 (List.mem_of_getElem? (i := 58) rfl) rfl

theorem gw_1263 : Cond.methodLink "Collationer$Collator" (98 : Nat) ({ cls := "Collationer$Elements", name := "areTakenOver", desc := "(I)Z" } : Jvm.MethodName) ∈ mGd := lk_6 (List.mem_of_getElem? (i := 63) rfl) rfl

theorem gw_1264 : Cond.instanceMethod ({ cls := "Collationer$Elements", name := "areTakenOver", desc := "(I)Z" } : Jvm.MethodName) ∈ mGd := lk_6 (List.mem_of_getElem? (i := 64) rfl) rfl

theorem gw_1265 : Cond.selects "Collationer$Elements" ({ cls := "Collationer$Elements", name := "areTakenOver", desc := "(I)Z" } : Jvm.MethodName) ({ cls := "Collationer$Elements", name := "areTakenOver", desc := "(I)Z" } : Jvm.MethodName) ∈ mGd := lk_6 (List.mem_of_getElem? (i := 65) rfl) rfl

theorem gw_1266 : Cond.code ({ cls := "Collationer$Elements", name := "areTakenOver", desc := "(I)Z" } : Jvm.MethodName) prog_5_method_11_code (3 : Nat) (Option.some FieldType.boolean) ∈ mGd := lk_6 (List.mem_of_getElem? (i := 66) rfl) rfl

theorem gw_34 : Cond.methodLink "Collationer$Compositions" (3 : Nat) ({ cls := "java/lang/Object", name := "<init>", desc := "()V" } : Jvm.MethodName) ∈ mGd := lk_1 (List.mem_of_getElem? (i := 34) rfl) rfl

theorem gw_45 : Cond.arrayClass FieldType.int ∈ mGd := lk_1 (List.mem_of_getElem? (i := 45) rfl) rfl

theorem gw_35 : Cond.fieldLink "Collationer$Compositions" (9 : Nat) "Collationer$Compositions" "bases" "[I" ∈ mGd := lk_1 (List.mem_of_getElem? (i := 35) rfl) rfl

theorem gw_36 : Cond.fieldLink "Collationer$Compositions" (15 : Nat) "Collationer$Compositions" "marks" "[I" ∈ mGd := lk_1 (List.mem_of_getElem? (i := 36) rfl) rfl

theorem gw_37 : Cond.fieldLink "Collationer$Compositions" (18 : Nat) "Collationer$Compositions" "count" "I" ∈ mGd := lk_1 (List.mem_of_getElem? (i := 37) rfl) rfl

theorem gw_433 : Cond.methodLink "Collationer$Compositions" (22 : Nat) ({ cls := "Collationer$Compositions", name := "baseOf", desc := "(I)I" } : Jvm.MethodName) ∈ mGd := lk_2 (List.mem_of_getElem? (i := 193) rfl) rfl

theorem gw_435 : Cond.instanceMethod ({ cls := "Collationer$Compositions", name := "baseOf", desc := "(I)I" } : Jvm.MethodName) ∈ mGd := lk_2 (List.mem_of_getElem? (i := 195) rfl) rfl

theorem gs_15 : Cond.selects "Collationer$Compositions" ⟨"Collationer$Compositions", "baseOf", "(I)I"⟩ ⟨"Collationer$Compositions", "baseOf", "(I)I"⟩ ∈ mGd := lp_1 (q := (⟨"Collationer$Compositions", "baseOf", "(I)I"⟩, 3)) (List.mem_of_getElem? (i := 7) rfl)

theorem gw_436 : Cond.code ({ cls := "Collationer$Compositions", name := "baseOf", desc := "(I)I" } : Jvm.MethodName) prog_3_method_4_code (2 : Nat) (Option.some FieldType.int) ∈ mGd := lk_2 (List.mem_of_getElem? (i := 196) rfl) rfl

theorem gw_2 : Cond.initialized "Collationer$Compositions" ∈ mGd := lk_1 (List.mem_of_getElem? (i := 2) rfl) rfl

theorem gw_534 : Cond.static ({ cls := "Collationer", name := "isLetter", desc := "(I)Z" } : Jvm.MethodName) ∈ mGd := lk_3 (List.mem_of_getElem? (i := 54) rfl) rfl

theorem gw_535 : Cond.code ({ cls := "Collationer", name := "isLetter", desc := "(I)Z" } : Jvm.MethodName) prog_1_method_52_code (1 : Nat) (Option.some FieldType.boolean) ∈ mGd := lk_3 (List.mem_of_getElem? (i := 55) rfl) rfl

theorem gw_569 : Cond.methodLink "Collationer$Compositions" (30 : Nat) ({ cls := "Collationer$Row", name := "clear", desc := "()V" } : Jvm.MethodName) ∈ mGd := lk_3 (List.mem_of_getElem? (i := 89) rfl) rfl

theorem gw_570 : Cond.methodLink "Collationer$Compositions" (35 : Nat) ({ cls := "Collationer$Row", name := "size", desc := "()I" } : Jvm.MethodName) ∈ mGd := lk_3 (List.mem_of_getElem? (i := 90) rfl) rfl

theorem gw_571 : Cond.methodLink "Collationer$Compositions" (39 : Nat) ({ cls := "Collationer$Row", name := "at", desc := "(I)I" } : Jvm.MethodName) ∈ mGd := lk_3 (List.mem_of_getElem? (i := 91) rfl) rfl

theorem gw_572 : Cond.methodLink "Collationer$Compositions" (42 : Nat) ({ cls := "Collationer$Compositions", name := "putApart", desc := "(ILCollationer$Row;)V" } : Jvm.MethodName) ∈ mGd := lk_3 (List.mem_of_getElem? (i := 92) rfl) rfl

theorem gw_574 : Cond.instanceMethod ({ cls := "Collationer$Compositions", name := "putApart", desc := "(ILCollationer$Row;)V" } : Jvm.MethodName) ∈ mGd := lk_3 (List.mem_of_getElem? (i := 94) rfl) rfl

theorem gs_21 : Cond.selects "Collationer$Compositions" ⟨"Collationer$Compositions", "putApart", "(ILCollationer$Row;)V"⟩ ⟨"Collationer$Compositions", "putApart", "(ILCollationer$Row;)V"⟩ ∈ mGd := lp_1 (q := (⟨"Collationer$Compositions", "putApart", "(ILCollationer$Row;)V"⟩, 3)) (List.mem_of_getElem? (i := 10) rfl)

theorem gw_575 : Cond.code ({ cls := "Collationer$Compositions", name := "putApart", desc := "(ILCollationer$Row;)V" } : Jvm.MethodName) prog_3_method_10_code (4 : Nat) (Option.none : Option FieldType) ∈ mGd := lk_3 (List.mem_of_getElem? (i := 95) rfl) rfl

theorem gw_582 : Cond.methodLink "Collationer$Compositions" (46 : Nat) ({ cls := "Collationer$Compositions", name := "sinkMark", desc := "(LCollationer$Row;I)V" } : Jvm.MethodName) ∈ mGd := lk_3 (List.mem_of_getElem? (i := 102) rfl) rfl

theorem gw_583 : Cond.static ({ cls := "Collationer$Compositions", name := "sinkMark", desc := "(LCollationer$Row;I)V" } : Jvm.MethodName) ∈ mGd := lk_3 (List.mem_of_getElem? (i := 103) rfl) rfl

theorem gw_584 : Cond.code ({ cls := "Collationer$Compositions", name := "sinkMark", desc := "(LCollationer$Row;I)V" } : Jvm.MethodName) prog_3_method_11_code (4 : Nat) (Option.none : Option FieldType) ∈ mGd := lk_3 (List.mem_of_getElem? (i := 104) rfl) rfl

theorem gw_576 : Cond.methodLink "Collationer$Compositions" (50 : Nat) ({ cls := "Collationer$Compositions", name := "has", desc := "(I)Z" } : Jvm.MethodName) ∈ mGd := lk_3 (List.mem_of_getElem? (i := 96) rfl) rfl

theorem gw_430 : Cond.instanceMethod ({ cls := "Collationer$Compositions", name := "has", desc := "(I)Z" } : Jvm.MethodName) ∈ mGd := lk_2 (List.mem_of_getElem? (i := 190) rfl) rfl

theorem gw_431 : Cond.selects "Collationer$Compositions" ({ cls := "Collationer$Compositions", name := "has", desc := "(I)Z" } : Jvm.MethodName) ({ cls := "Collationer$Compositions", name := "has", desc := "(I)Z" } : Jvm.MethodName) ∈ mGd := lk_2 (List.mem_of_getElem? (i := 191) rfl) rfl

theorem gw_432 : Cond.code ({ cls := "Collationer$Compositions", name := "has", desc := "(I)Z" } : Jvm.MethodName) prog_3_method_3_code (2 : Nat) (Option.some FieldType.boolean) ∈ mGd := lk_2 (List.mem_of_getElem? (i := 192) rfl) rfl

theorem gw_577 : Cond.methodLink "Collationer$Compositions" (53 : Nat) ({ cls := "Collationer$Row", name := "put", desc := "(I)V" } : Jvm.MethodName) ∈ mGd := lk_3 (List.mem_of_getElem? (i := 97) rfl) rfl

theorem gw_578 : Cond.methodLink "Collationer$Compositions" (57 : Nat) ({ cls := "Collationer$Compositions", name := "markOf", desc := "(I)I" } : Jvm.MethodName) ∈ mGd := lk_3 (List.mem_of_getElem? (i := 98) rfl) rfl

theorem gw_580 : Cond.instanceMethod ({ cls := "Collationer$Compositions", name := "markOf", desc := "(I)I" } : Jvm.MethodName) ∈ mGd := lk_3 (List.mem_of_getElem? (i := 100) rfl) rfl

theorem gs_16 : Cond.selects "Collationer$Compositions" ⟨"Collationer$Compositions", "markOf", "(I)I"⟩ ⟨"Collationer$Compositions", "markOf", "(I)I"⟩ ∈ mGd := lp_1 (q := (⟨"Collationer$Compositions", "markOf", "(I)I"⟩, 3)) (List.mem_of_getElem? (i := 11) rfl)

theorem gw_581 : Cond.code ({ cls := "Collationer$Compositions", name := "markOf", desc := "(I)I" } : Jvm.MethodName) prog_3_method_5_code (2 : Nat) (Option.some FieldType.int) ∈ mGd := lk_3 (List.mem_of_getElem? (i := 101) rfl) rfl

theorem gw_587 : Cond.static ({ cls := "Collationer", name := "classOf", desc := "(I)I" } : Jvm.MethodName) ∈ mGd := lk_3 (List.mem_of_getElem? (i := 107) rfl) rfl

theorem gw_588 : Cond.code ({ cls := "Collationer", name := "classOf", desc := "(I)I" } : Jvm.MethodName) prog_1_method_56_code (1 : Nat) (Option.some FieldType.int) ∈ mGd := lk_3 (List.mem_of_getElem? (i := 108) rfl) rfl

theorem gw_591 : Cond.methodLink "Collationer$Compositions" (66 : Nat) ({ cls := "Collationer$Row", name := "set", desc := "(II)V" } : Jvm.MethodName) ∈ mGd := lk_3 (List.mem_of_getElem? (i := 111) rfl) rfl

theorem gw_592 : Cond.instanceMethod ({ cls := "Collationer$Row", name := "set", desc := "(II)V" } : Jvm.MethodName) ∈ mGd := lk_3 (List.mem_of_getElem? (i := 112) rfl) rfl

theorem gw_593 : Cond.selects "Collationer$Row" ({ cls := "Collationer$Row", name := "set", desc := "(II)V" } : Jvm.MethodName) ({ cls := "Collationer$Row", name := "set", desc := "(II)V" } : Jvm.MethodName) ∈ mGd := lk_3 (List.mem_of_getElem? (i := 113) rfl) rfl

theorem gw_594 : Cond.code ({ cls := "Collationer$Row", name := "set", desc := "(II)V" } : Jvm.MethodName) prog_10_method_5_code (3 : Nat) (Option.none : Option FieldType) ∈ mGd := lk_3 (List.mem_of_getElem? (i := 114) rfl) rfl

theorem gw_1164 : Cond.methodLink "Collationer$Compositions" (70 : Nat) ({ cls := "Collationer$Compositions", name := "composedOf", desc := "(II)I" } : Jvm.MethodName) ∈ mGd := lk_5 (List.mem_of_getElem? (i := 204) rfl) rfl

theorem gw_541 : Cond.instanceMethod ({ cls := "Collationer$Compositions", name := "composedOf", desc := "(II)I" } : Jvm.MethodName) ∈ mGd := lk_3 (List.mem_of_getElem? (i := 61) rfl) rfl

theorem gw_542 : Cond.selects "Collationer$Compositions" ({ cls := "Collationer$Compositions", name := "composedOf", desc := "(II)I" } : Jvm.MethodName) ({ cls := "Collationer$Compositions", name := "composedOf", desc := "(II)I" } : Jvm.MethodName) ∈ mGd := lk_3 (List.mem_of_getElem? (i := 62) rfl) rfl

theorem gw_543 : Cond.code ({ cls := "Collationer$Compositions", name := "composedOf", desc := "(II)I" } : Jvm.MethodName) prog_3_method_8_code (4 : Nat) (Option.some FieldType.int) ∈ mGd := lk_3 (List.mem_of_getElem? (i := 63) rfl) rfl

theorem gw_1165 : Cond.methodLink "Collationer$Compositions" (74 : Nat) ({ cls := "java/lang/Math", name := "max", desc := "(II)I" } : Jvm.MethodName) ∈ mGd := lk_5 (List.mem_of_getElem? (i := 205) rfl) rfl

theorem gw_53 : Cond.static ({ cls := "java/lang/Math", name := "max", desc := "(II)I" } : Jvm.MethodName) ∈ mGd := lk_1 (List.mem_of_getElem? (i := 53) rfl) rfl

theorem gw_54 : Cond.code ({ cls := "java/lang/Math", name := "max", desc := "(II)I" } : Jvm.MethodName) prog_19_method_65_code (2 : Nat) (Option.some FieldType.int) ∈ mGd := lk_1 (List.mem_of_getElem? (i := 54) rfl) rfl

theorem gw_4 : Cond.initialized "java/lang/Math" ∈ mGd := lk_1 (List.mem_of_getElem? (i := 4) rfl) rfl

theorem gw_143 : Cond.methodLink "Collationer$Corpus" (3 : Nat) ({ cls := "java/lang/Object", name := "<init>", desc := "()V" } : Jvm.MethodName) ∈ mGd := lk_1 (List.mem_of_getElem? (i := 143) rfl) rfl

theorem gw_144 : Cond.classLink "Collationer$Corpus" (9 : Nat) "Collationer$Row" ∈ mGd := lk_1 (List.mem_of_getElem? (i := 144) rfl) rfl

theorem gw_145 : Cond.methodLink "Collationer$Corpus" (11 : Nat) ({ cls := "Collationer$Row", name := "<init>", desc := "(I)V" } : Jvm.MethodName) ∈ mGd := lk_1 (List.mem_of_getElem? (i := 145) rfl) rfl

theorem gw_146 : Cond.fieldLink "Collationer$Corpus" (14 : Nat) "Collationer$Corpus" "wordTexts" "LCollationer$Row;" ∈ mGd := lk_1 (List.mem_of_getElem? (i := 146) rfl) rfl

theorem gw_147 : Cond.fieldLink "Collationer$Corpus" (20 : Nat) "Collationer$Corpus" "wordReads" "LCollationer$Row;" ∈ mGd := lk_1 (List.mem_of_getElem? (i := 147) rfl) rfl

theorem gw_148 : Cond.fieldLink "Collationer$Corpus" (23 : Nat) "Collationer$Corpus" "readings" "[LCollationer$Row;" ∈ mGd := lk_1 (List.mem_of_getElem? (i := 148) rfl) rfl

theorem gw_1040 : Cond.methodLink "Collationer$Corpus" (27 : Nat) ({ cls := "Collationer$Row", name := "size", desc := "()I" } : Jvm.MethodName) ∈ mGd := lk_5 (List.mem_of_getElem? (i := 80) rfl) rfl

theorem gw_1046 : Cond.methodLink "Collationer$Corpus" (31 : Nat) ({ cls := "Collationer$Row", name := "put", desc := "(I)V" } : Jvm.MethodName) ∈ mGd := lk_5 (List.mem_of_getElem? (i := 86) rfl) rfl

theorem gw_1076 : Cond.methodLink "Collationer$Corpus" (34 : Nat) ({ cls := "Collationer$Row", name := "at", desc := "(I)I" } : Jvm.MethodName) ∈ mGd := lk_5 (List.mem_of_getElem? (i := 116) rfl) rfl

theorem gw_1086 : Cond.methodLink "Collationer$Corpus" (38 : Nat) ({ cls := "Collationer$Row", name := "set", desc := "(II)V" } : Jvm.MethodName) ∈ mGd := lk_5 (List.mem_of_getElem? (i := 126) rfl) rfl

theorem gw_1411 : Cond.methodLink "Collationer$Corpus" (42 : Nat) ({ cls := "Collationer$Corpus", name := "readAs", desc := "(I)I" } : Jvm.MethodName) ∈ mGd := lk_6 (List.mem_of_getElem? (i := 211) rfl) rfl

theorem gw_1079 : Cond.instanceMethod ({ cls := "Collationer$Corpus", name := "readAs", desc := "(I)I" } : Jvm.MethodName) ∈ mGd := lk_5 (List.mem_of_getElem? (i := 119) rfl) rfl

theorem gw_1080 : Cond.selects "Collationer$Corpus" ({ cls := "Collationer$Corpus", name := "readAs", desc := "(I)I" } : Jvm.MethodName) ({ cls := "Collationer$Corpus", name := "readAs", desc := "(I)I" } : Jvm.MethodName) ∈ mGd := lk_5 (List.mem_of_getElem? (i := 120) rfl) rfl

theorem gw_1081 : Cond.code ({ cls := "Collationer$Corpus", name := "readAs", desc := "(I)I" } : Jvm.MethodName) prog_4_method_6_code (2 : Nat) (Option.some FieldType.int) ∈ mGd := lk_5 (List.mem_of_getElem? (i := 121) rfl) rfl

theorem gw_6 : Cond.initialized "Collationer$Corpus" ∈ mGd := lk_1 (List.mem_of_getElem? (i := 6) rfl) rfl

theorem gw_1412 : Cond.methodLink "Collationer$Corpus" (45 : Nat) ({ cls := "Collationer$Corpus", name := "textOf", desc := "(I)I" } : Jvm.MethodName) ∈ mGd := lk_6 (List.mem_of_getElem? (i := 212) rfl) rfl

theorem gw_1073 : Cond.instanceMethod ({ cls := "Collationer$Corpus", name := "textOf", desc := "(I)I" } : Jvm.MethodName) ∈ mGd := lk_5 (List.mem_of_getElem? (i := 113) rfl) rfl

theorem gw_1074 : Cond.selects "Collationer$Corpus" ({ cls := "Collationer$Corpus", name := "textOf", desc := "(I)I" } : Jvm.MethodName) ({ cls := "Collationer$Corpus", name := "textOf", desc := "(I)I" } : Jvm.MethodName) ∈ mGd := lk_5 (List.mem_of_getElem? (i := 114) rfl) rfl

theorem gw_1075 : Cond.code ({ cls := "Collationer$Corpus", name := "textOf", desc := "(I)I" } : Jvm.MethodName) prog_4_method_5_code (2 : Nat) (Option.some FieldType.int) ∈ mGd := lk_5 (List.mem_of_getElem? (i := 115) rfl) rfl

theorem gw_1413 : Cond.methodLink "Collationer$Corpus" (48 : Nat) ({ cls := "Collationer$Corpus", name := "readingsOf", desc := "(I)LCollationer$Row;" } : Jvm.MethodName) ∈ mGd := lk_6 (List.mem_of_getElem? (i := 213) rfl) rfl

theorem gw_1055 : Cond.instanceMethod ({ cls := "Collationer$Corpus", name := "readingsOf", desc := "(I)LCollationer$Row;" } : Jvm.MethodName) ∈ mGd := lk_5 (List.mem_of_getElem? (i := 95) rfl) rfl

theorem gw_1056 : Cond.selects "Collationer$Corpus" ({ cls := "Collationer$Corpus", name := "readingsOf", desc := "(I)LCollationer$Row;" } : Jvm.MethodName) ({ cls := "Collationer$Corpus", name := "readingsOf", desc := "(I)LCollationer$Row;" } : Jvm.MethodName) ∈ mGd := lk_5 (List.mem_of_getElem? (i := 96) rfl) rfl

theorem gw_1057 : Cond.code ({ cls := "Collationer$Corpus", name := "readingsOf", desc := "(I)LCollationer$Row;" } : Jvm.MethodName) prog_4_method_8_code (2 : Nat) (Option.some (FieldType.object "Collationer$Row")) ∈ mGd := lk_5 (List.mem_of_getElem? (i := 97) rfl) rfl

theorem gw_1414 : Cond.methodLink "Collationer$Corpus" (52 : Nat) ({ cls := "Collationer$Row", name := "isEmpty", desc := "()Z" } : Jvm.MethodName) ∈ mGd := lk_6 (List.mem_of_getElem? (i := 214) rfl) rfl

theorem gw_401 : Cond.instanceMethod ({ cls := "Collationer$Row", name := "isEmpty", desc := "()Z" } : Jvm.MethodName) ∈ mGd := lk_2 (List.mem_of_getElem? (i := 161) rfl) rfl

theorem gw_402 : Cond.selects "Collationer$Row" ({ cls := "Collationer$Row", name := "isEmpty", desc := "()Z" } : Jvm.MethodName) ({ cls := "Collationer$Row", name := "isEmpty", desc := "()Z" } : Jvm.MethodName) ∈ mGd := lk_2 (List.mem_of_getElem? (i := 162) rfl) rfl

theorem gw_403 : Cond.code ({ cls := "Collationer$Row", name := "isEmpty", desc := "()Z" } : Jvm.MethodName) prog_10_method_3_code (1 : Nat) (Option.some FieldType.boolean) ∈ mGd := lk_2 (List.mem_of_getElem? (i := 163) rfl) rfl

theorem gw_1415 : Cond.methodLink "Collationer$Corpus" (56 : Nat) ({ cls := "Collationer$Row", name := "has", desc := "(I)Z" } : Jvm.MethodName) ∈ mGd := lk_6 (List.mem_of_getElem? (i := 215) rfl) rfl

theorem gw_656 : Cond.instanceMethod ({ cls := "Collationer$Row", name := "has", desc := "(I)Z" } : Jvm.MethodName) ∈ mGd := lk_3 (List.mem_of_getElem? (i := 176) rfl) rfl

theorem gw_657 : Cond.selects "Collationer$Row" ({ cls := "Collationer$Row", name := "has", desc := "(I)Z" } : Jvm.MethodName) ({ cls := "Collationer$Row", name := "has", desc := "(I)Z" } : Jvm.MethodName) ∈ mGd := lk_3 (List.mem_of_getElem? (i := 177) rfl) rfl

theorem gw_658 : Cond.code ({ cls := "Collationer$Row", name := "has", desc := "(I)Z" } : Jvm.MethodName) prog_10_method_13_code (2 : Nat) (Option.some FieldType.boolean) ∈ mGd := lk_3 (List.mem_of_getElem? (i := 178) rfl) rfl

theorem gw_1407 : Cond.methodLink "Collationer$Corpus" (60 : Nat) ({ cls := "Collationer$Corpus", name := "isOf", desc := "(II)Z" } : Jvm.MethodName) ∈ mGd := lk_6 (List.mem_of_getElem? (i := 207) rfl) rfl

theorem gw_1408 : Cond.instanceMethod ({ cls := "Collationer$Corpus", name := "isOf", desc := "(II)Z" } : Jvm.MethodName) ∈ mGd := lk_6 (List.mem_of_getElem? (i := 208) rfl) rfl

theorem gw_1409 : Cond.selects "Collationer$Corpus" ({ cls := "Collationer$Corpus", name := "isOf", desc := "(II)Z" } : Jvm.MethodName) ({ cls := "Collationer$Corpus", name := "isOf", desc := "(II)Z" } : Jvm.MethodName) ∈ mGd := lk_6 (List.mem_of_getElem? (i := 209) rfl) rfl

theorem gw_1410 : Cond.code ({ cls := "Collationer$Corpus", name := "isOf", desc := "(II)Z" } : Jvm.MethodName) prog_4_method_9_code (4 : Nat) (Option.some FieldType.boolean) ∈ mGd := lk_6 (List.mem_of_getElem? (i := 210) rfl) rfl

theorem gw_182 : Cond.methodLink "Collationer$Elements" (3 : Nat) ({ cls := "java/lang/Object", name := "<init>", desc := "()V" } : Jvm.MethodName) ∈ mGd := lk_1 (List.mem_of_getElem? (i := 182) rfl) rfl

theorem gw_183 : Cond.classLink "Collationer$Elements" (9 : Nat) "Collationer$Row" ∈ mGd := lk_1 (List.mem_of_getElem? (i := 183) rfl) rfl

theorem gw_184 : Cond.methodLink "Collationer$Elements" (11 : Nat) ({ cls := "Collationer$Row", name := "<init>", desc := "(I)V" } : Jvm.MethodName) ∈ mGd := lk_1 (List.mem_of_getElem? (i := 184) rfl) rfl

theorem gw_185 : Cond.fieldLink "Collationer$Elements" (14 : Nat) "Collationer$Elements" "firsts" "LCollationer$Row;" ∈ mGd := lk_1 (List.mem_of_getElem? (i := 185) rfl) rfl

theorem gw_186 : Cond.fieldLink "Collationer$Elements" (20 : Nat) "Collationer$Elements" "seconds" "LCollationer$Row;" ∈ mGd := lk_1 (List.mem_of_getElem? (i := 186) rfl) rfl

theorem gw_187 : Cond.fieldLink "Collationer$Elements" (23 : Nat) "Collationer$Elements" "thirds" "LCollationer$Row;" ∈ mGd := lk_1 (List.mem_of_getElem? (i := 187) rfl) rfl

theorem gw_188 : Cond.fieldLink "Collationer$Elements" (26 : Nat) "Collationer$Elements" "kinds" "LCollationer$Row;" ∈ mGd := lk_1 (List.mem_of_getElem? (i := 188) rfl) rfl

theorem gw_189 : Cond.fieldLink "Collationer$Elements" (29 : Nat) "Collationer$Elements" "takers" "LCollationer$Row;" ∈ mGd := lk_1 (List.mem_of_getElem? (i := 189) rfl) rfl

theorem gw_728 : Cond.methodLink "Collationer$Elements" (32 : Nat) ({ cls := "Collationer$Row", name := "size", desc := "()I" } : Jvm.MethodName) ∈ mGd := lk_4 (List.mem_of_getElem? (i := 8) rfl) rfl

theorem gw_729 : Cond.methodLink "Collationer$Elements" (36 : Nat) ({ cls := "Collationer$Elements", name := "begin", desc := "(I)V" } : Jvm.MethodName) ∈ mGd := lk_4 (List.mem_of_getElem? (i := 9) rfl) rfl

theorem gw_731 : Cond.instanceMethod ({ cls := "Collationer$Elements", name := "begin", desc := "(I)V" } : Jvm.MethodName) ∈ mGd := lk_4 (List.mem_of_getElem? (i := 11) rfl) rfl

theorem gs_36 : Cond.selects "Collationer$Elements" ⟨"Collationer$Elements", "begin", "(I)V"⟩ ⟨"Collationer$Elements", "begin", "(I)V"⟩ ∈ mGd := lp_2 (q := (⟨"Collationer$Elements", "begin", "(I)V"⟩, 6)) (List.mem_of_getElem? (i := 3) rfl)

theorem gw_732 : Cond.code ({ cls := "Collationer$Elements", name := "begin", desc := "(I)V" } : Jvm.MethodName) prog_5_method_3_code (3 : Nat) (Option.none : Option FieldType) ∈ mGd := lk_4 (List.mem_of_getElem? (i := 12) rfl) rfl

theorem gw_735 : Cond.methodLink "Collationer$Elements" (39 : Nat) ({ cls := "Collationer$Row", name := "at", desc := "(I)I" } : Jvm.MethodName) ∈ mGd := lk_4 (List.mem_of_getElem? (i := 15) rfl) rfl

theorem gw_737 : Cond.methodLink "Collationer$Elements" (47 : Nat) ({ cls := "Collationer$Elements", name := "putMark", desc := "(II)V" } : Jvm.MethodName) ∈ mGd := lk_4 (List.mem_of_getElem? (i := 17) rfl) rfl

theorem gw_739 : Cond.instanceMethod ({ cls := "Collationer$Elements", name := "putMark", desc := "(II)V" } : Jvm.MethodName) ∈ mGd := lk_4 (List.mem_of_getElem? (i := 19) rfl) rfl

theorem gs_39 : Cond.selects "Collationer$Elements" ⟨"Collationer$Elements", "putMark", "(II)V"⟩ ⟨"Collationer$Elements", "putMark", "(II)V"⟩ ∈ mGd := lp_2 (q := (⟨"Collationer$Elements", "putMark", "(II)V"⟩, 6)) (List.mem_of_getElem? (i := 4) rfl)

theorem gw_740 : Cond.code ({ cls := "Collationer$Elements", name := "putMark", desc := "(II)V" } : Jvm.MethodName) prog_5_method_6_code (3 : Nat) (Option.none : Option FieldType) ∈ mGd := lk_4 (List.mem_of_getElem? (i := 20) rfl) rfl

theorem gw_751 : Cond.static ({ cls := "Collationer", name := "isDigit", desc := "(I)Z" } : Jvm.MethodName) ∈ mGd := lk_4 (List.mem_of_getElem? (i := 31) rfl) rfl

theorem gw_752 : Cond.code ({ cls := "Collationer", name := "isDigit", desc := "(I)Z" } : Jvm.MethodName) prog_1_method_55_code (1 : Nat) (Option.some FieldType.boolean) ∈ mGd := lk_4 (List.mem_of_getElem? (i := 32) rfl) rfl

theorem gw_753 : Cond.methodLink "Collationer$Elements" (54 : Nat) ({ cls := "Collationer$Tailoring", name := "hasOption", desc := "(I)Z" } : Jvm.MethodName) ∈ mGd := lk_4 (List.mem_of_getElem? (i := 33) rfl) rfl

theorem gw_754 : Cond.instanceMethod ({ cls := "Collationer$Tailoring", name := "hasOption", desc := "(I)Z" } : Jvm.MethodName) ∈ mGd := lk_4 (List.mem_of_getElem? (i := 34) rfl) rfl

theorem gw_755 : Cond.selects "Collationer$Tailoring" ({ cls := "Collationer$Tailoring", name := "hasOption", desc := "(I)Z" } : Jvm.MethodName) ({ cls := "Collationer$Tailoring", name := "hasOption", desc := "(I)Z" } : Jvm.MethodName) ∈ mGd := lk_4 (List.mem_of_getElem? (i := 35) rfl) rfl

theorem gw_756 : Cond.code ({ cls := "Collationer$Tailoring", name := "hasOption", desc := "(I)Z" } : Jvm.MethodName) prog_11_method_4_code (2 : Nat) (Option.some FieldType.boolean) ∈ mGd := lk_4 (List.mem_of_getElem? (i := 36) rfl) rfl

theorem gw_5 : Cond.initialized "Collationer$Tailoring" ∈ mGd := lk_1 (List.mem_of_getElem? (i := 5) rfl) rfl

theorem gw_757 : Cond.methodLink "Collationer$Elements" (59 : Nat) ({ cls := "Collationer$Elements", name := "putNumber", desc := "(LCollationer$Tailoring;LCollationer$Row;I)V" } : Jvm.MethodName) ∈ mGd := lk_4 (List.mem_of_getElem? (i := 37) rfl) rfl

theorem gw_759 : Cond.instanceMethod ({ cls := "Collationer$Elements", name := "putNumber", desc := "(LCollationer$Tailoring;LCollationer$Row;I)V" } : Jvm.MethodName) ∈ mGd := lk_4 (List.mem_of_getElem? (i := 39) rfl) rfl

theorem gs_40 : Cond.selects "Collationer$Elements" ⟨"Collationer$Elements", "putNumber", "(LCollationer$Tailoring;LCollationer$Row;I)V"⟩ ⟨"Collationer$Elements", "putNumber", "(LCollationer$Tailoring;LCollationer$Row;I)V"⟩ ∈ mGd := lp_2 (q := (⟨"Collationer$Elements", "putNumber", "(LCollationer$Tailoring;LCollationer$Row;I)V"⟩, 6)) (List.mem_of_getElem? (i := 6) rfl)

theorem gw_760 : Cond.code ({ cls := "Collationer$Elements", name := "putNumber", desc := "(LCollationer$Tailoring;LCollationer$Row;I)V" } : Jvm.MethodName) prog_5_method_7_code (7 : Nat) (Option.none : Option FieldType) ∈ mGd := lk_4 (List.mem_of_getElem? (i := 40) rfl) rfl

theorem gw_768 : Cond.methodLink "Collationer$Elements" (63 : Nat) ({ cls := "Collationer$Elements", name := "putItem", desc := "(LCollationer$Tailoring;LCollationer$Row;I)V" } : Jvm.MethodName) ∈ mGd := lk_4 (List.mem_of_getElem? (i := 48) rfl) rfl

theorem gw_770 : Cond.instanceMethod ({ cls := "Collationer$Elements", name := "putItem", desc := "(LCollationer$Tailoring;LCollationer$Row;I)V" } : Jvm.MethodName) ∈ mGd := lk_4 (List.mem_of_getElem? (i := 50) rfl) rfl

theorem gs_41 : Cond.selects "Collationer$Elements" ⟨"Collationer$Elements", "putItem", "(LCollationer$Tailoring;LCollationer$Row;I)V"⟩ ⟨"Collationer$Elements", "putItem", "(LCollationer$Tailoring;LCollationer$Row;I)V"⟩ ∈ mGd := lp_2 (q := (⟨"Collationer$Elements", "putItem", "(LCollationer$Tailoring;LCollationer$Row;I)V"⟩, 6)) (List.mem_of_getElem? (i := 7) rfl)

theorem gw_771 : Cond.code ({ cls := "Collationer$Elements", name := "putItem", desc := "(LCollationer$Tailoring;LCollationer$Row;I)V" } : Jvm.MethodName) prog_5_method_8_code (5 : Nat) (Option.none : Option FieldType) ∈ mGd := lk_4 (List.mem_of_getElem? (i := 51) rfl) rfl

theorem gw_733 : Cond.methodLink "Collationer$Elements" (66 : Nat) ({ cls := "Collationer$Row", name := "clear", desc := "()V" } : Jvm.MethodName) ∈ mGd := lk_4 (List.mem_of_getElem? (i := 13) rfl) rfl

theorem gw_734 : Cond.methodLink "Collationer$Elements" (69 : Nat) ({ cls := "Collationer$Row", name := "put", desc := "(I)V" } : Jvm.MethodName) ∈ mGd := lk_4 (List.mem_of_getElem? (i := 14) rfl) rfl

theorem gw_190 : Cond.fieldLink "Collationer$Elements" (72 : Nat) "Collationer$Elements" "kind" "I" ∈ mGd := lk_1 (List.mem_of_getElem? (i := 190) rfl) rfl

theorem gw_745 : Cond.methodLink "Collationer$Elements" (76 : Nat) ({ cls := "Collationer$Row", name := "set", desc := "(II)V" } : Jvm.MethodName) ∈ mGd := lk_4 (List.mem_of_getElem? (i := 25) rfl) rfl

theorem gw_741 : Cond.methodLink "Collationer$Elements" (79 : Nat) ({ cls := "Collationer$Elements", name := "take", desc := "(III)V" } : Jvm.MethodName) ∈ mGd := lk_4 (List.mem_of_getElem? (i := 21) rfl) rfl

theorem gw_743 : Cond.instanceMethod ({ cls := "Collationer$Elements", name := "take", desc := "(III)V" } : Jvm.MethodName) ∈ mGd := lk_4 (List.mem_of_getElem? (i := 23) rfl) rfl

theorem gs_38 : Cond.selects "Collationer$Elements" ⟨"Collationer$Elements", "take", "(III)V"⟩ ⟨"Collationer$Elements", "take", "(III)V"⟩ ∈ mGd := lp_2 (q := (⟨"Collationer$Elements", "take", "(III)V"⟩, 6)) (List.mem_of_getElem? (i := 5) rfl)

theorem gw_744 : Cond.code ({ cls := "Collationer$Elements", name := "take", desc := "(III)V" } : Jvm.MethodName) prog_5_method_5_code (5 : Nat) (Option.none : Option FieldType) ∈ mGd := lk_4 (List.mem_of_getElem? (i := 24) rfl) rfl

theorem gw_746 : Cond.methodLink "Collationer$Elements" (83 : Nat) ({ cls := "Collationer$Elements", name := "put", desc := "(III)V" } : Jvm.MethodName) ∈ mGd := lk_4 (List.mem_of_getElem? (i := 26) rfl) rfl

theorem gw_747 : Cond.instanceMethod ({ cls := "Collationer$Elements", name := "put", desc := "(III)V" } : Jvm.MethodName) ∈ mGd := lk_4 (List.mem_of_getElem? (i := 27) rfl) rfl

theorem gw_748 : Cond.selects "Collationer$Elements" ({ cls := "Collationer$Elements", name := "put", desc := "(III)V" } : Jvm.MethodName) ({ cls := "Collationer$Elements", name := "put", desc := "(III)V" } : Jvm.MethodName) ∈ mGd := lk_4 (List.mem_of_getElem? (i := 28) rfl) rfl

theorem gw_749 : Cond.code ({ cls := "Collationer$Elements", name := "put", desc := "(III)V" } : Jvm.MethodName) prog_5_method_4_code (4 : Nat) (Option.none : Option FieldType) ∈ mGd := lk_4 (List.mem_of_getElem? (i := 29) rfl) rfl

theorem gw_77 : Cond.static ({ cls := "Collationer", name := "codeOfSign", desc := "(I)I" } : Jvm.MethodName) ∈ mGd := lk_1 (List.mem_of_getElem? (i := 77) rfl) rfl

theorem gw_78 : Cond.code ({ cls := "Collationer", name := "codeOfSign", desc := "(I)I" } : Jvm.MethodName) prog_1_method_59_code (1 : Nat) (Option.some FieldType.int) ∈ mGd := lk_1 (List.mem_of_getElem? (i := 78) rfl) rfl

theorem gw_762 : Cond.methodLink "Collationer$Elements" (88 : Nat) ({ cls := "Collationer$Tailoring", name := "firstWeightOf", desc := "(I)I" } : Jvm.MethodName) ∈ mGd := lk_4 (List.mem_of_getElem? (i := 42) rfl) rfl

theorem gw_763 : Cond.instanceMethod ({ cls := "Collationer$Tailoring", name := "firstWeightOf", desc := "(I)I" } : Jvm.MethodName) ∈ mGd := lk_4 (List.mem_of_getElem? (i := 43) rfl) rfl

theorem gw_764 : Cond.selects "Collationer$Tailoring" ({ cls := "Collationer$Tailoring", name := "firstWeightOf", desc := "(I)I" } : Jvm.MethodName) ({ cls := "Collationer$Tailoring", name := "firstWeightOf", desc := "(I)I" } : Jvm.MethodName) ∈ mGd := lk_4 (List.mem_of_getElem? (i := 44) rfl) rfl

theorem gw_765 : Cond.code ({ cls := "Collationer$Tailoring", name := "firstWeightOf", desc := "(I)I" } : Jvm.MethodName) prog_11_method_10_code (2 : Nat) (Option.some FieldType.int) ∈ mGd := lk_4 (List.mem_of_getElem? (i := 45) rfl) rfl

theorem gw_773 : Cond.static ({ cls := "Collationer", name := "isBlank", desc := "(I)Z" } : Jvm.MethodName) ∈ mGd := lk_4 (List.mem_of_getElem? (i := 53) rfl) rfl

theorem gw_774 : Cond.code ({ cls := "Collationer", name := "isBlank", desc := "(I)Z" } : Jvm.MethodName) prog_1_method_54_code (1 : Nat) (Option.some FieldType.boolean) ∈ mGd := lk_4 (List.mem_of_getElem? (i := 54) rfl) rfl

theorem gw_632 : Cond.static ({ cls := "Collationer", name := "codeOf", desc := "(LCollationer$Row;II)I" } : Jvm.MethodName) ∈ mGd := lk_3 (List.mem_of_getElem? (i := 152) rfl) rfl

theorem gw_633 : Cond.code ({ cls := "Collationer", name := "codeOf", desc := "(LCollationer$Row;II)I" } : Jvm.MethodName) prog_1_method_58_code (5 : Nat) (Option.some FieldType.int) ∈ mGd := lk_3 (List.mem_of_getElem? (i := 153) rfl) rfl

theorem gw_776 : Cond.methodLink "Collationer$Elements" (98 : Nat) ({ cls := "Collationer$Tailoring", name := "knows", desc := "(I)Z" } : Jvm.MethodName) ∈ mGd := lk_4 (List.mem_of_getElem? (i := 56) rfl) rfl

theorem gw_777 : Cond.instanceMethod ({ cls := "Collationer$Tailoring", name := "knows", desc := "(I)Z" } : Jvm.MethodName) ∈ mGd := lk_4 (List.mem_of_getElem? (i := 57) rfl) rfl

theorem gw_778 : Cond.selects "Collationer$Tailoring" ({ cls := "Collationer$Tailoring", name := "knows", desc := "(I)Z" } : Jvm.MethodName) ({ cls := "Collationer$Tailoring", name := "knows", desc := "(I)Z" } : Jvm.MethodName) ∈ mGd := lk_4 (List.mem_of_getElem? (i := 58) rfl) rfl

theorem gw_779 : Cond.code ({ cls := "Collationer$Tailoring", name := "knows", desc := "(I)Z" } : Jvm.MethodName) prog_11_method_9_code (2 : Nat) (Option.some FieldType.boolean) ∈ mGd := lk_4 (List.mem_of_getElem? (i := 59) rfl) rfl

theorem gw_780 : Cond.methodLink "Collationer$Elements" (101 : Nat) ({ cls := "Collationer$Elements", name := "takeMarks", desc := "(LCollationer$Tailoring;LCollationer$Row;II)I" } : Jvm.MethodName) ∈ mGd := lk_4 (List.mem_of_getElem? (i := 60) rfl) rfl

theorem gw_782 : Cond.instanceMethod ({ cls := "Collationer$Elements", name := "takeMarks", desc := "(LCollationer$Tailoring;LCollationer$Row;II)I" } : Jvm.MethodName) ∈ mGd := lk_4 (List.mem_of_getElem? (i := 62) rfl) rfl

theorem gs_42 : Cond.selects "Collationer$Elements" ⟨"Collationer$Elements", "takeMarks", "(LCollationer$Tailoring;LCollationer$Row;II)I"⟩ ⟨"Collationer$Elements", "takeMarks", "(LCollationer$Tailoring;LCollationer$Row;II)I"⟩ ∈ mGd := lp_2 (q := (⟨"Collationer$Elements", "takeMarks", "(LCollationer$Tailoring;LCollationer$Row;II)I"⟩, 6)) (List.mem_of_getElem? (i := 8) rfl)

theorem gw_783 : Cond.code ({ cls := "Collationer$Elements", name := "takeMarks", desc := "(LCollationer$Tailoring;LCollationer$Row;II)I" } : Jvm.MethodName) prog_5_method_9_code (9 : Nat) (Option.some FieldType.int) ∈ mGd := lk_4 (List.mem_of_getElem? (i := 63) rfl) rfl

theorem gw_786 : Cond.methodLink "Collationer$Elements" (105 : Nat) ({ cls := "Collationer$Tailoring", name := "putWeights", desc := "(ILCollationer$Elements;)V" } : Jvm.MethodName) ∈ mGd := lk_4 (List.mem_of_getElem? (i := 66) rfl) rfl

theorem gw_787 : Cond.instanceMethod ({ cls := "Collationer$Tailoring", name := "putWeights", desc := "(ILCollationer$Elements;)V" } : Jvm.MethodName) ∈ mGd := lk_4 (List.mem_of_getElem? (i := 67) rfl) rfl

theorem gw_788 : Cond.selects "Collationer$Tailoring" ({ cls := "Collationer$Tailoring", name := "putWeights", desc := "(ILCollationer$Elements;)V" } : Jvm.MethodName) ({ cls := "Collationer$Tailoring", name := "putWeights", desc := "(ILCollationer$Elements;)V" } : Jvm.MethodName) ∈ mGd := lk_4 (List.mem_of_getElem? (i := 68) rfl) rfl

theorem gw_789 : Cond.code ({ cls := "Collationer$Tailoring", name := "putWeights", desc := "(ILCollationer$Elements;)V" } : Jvm.MethodName) prog_11_method_11_code (8 : Nat) (Option.none : Option FieldType) ∈ mGd := lk_4 (List.mem_of_getElem? (i := 69) rfl) rfl

theorem gw_785 : Cond.methodLink "Collationer$Elements" (112 : Nat) ({ cls := "java/lang/Math", name := "max", desc := "(II)I" } : Jvm.MethodName) ∈ mGd := lk_4 (List.mem_of_getElem? (i := 65) rfl) rfl

theorem gw_796 : Cond.methodLink "Collationer$Elements" (118 : Nat) ({ cls := "Collationer$Elements", name := "lastWeight", desc := "(ZI)I" } : Jvm.MethodName) ∈ mGd := lk_4 (List.mem_of_getElem? (i := 76) rfl) rfl

theorem gw_798 : Cond.instanceMethod ({ cls := "Collationer$Elements", name := "lastWeight", desc := "(ZI)I" } : Jvm.MethodName) ∈ mGd := lk_4 (List.mem_of_getElem? (i := 78) rfl) rfl

theorem gs_47 : Cond.selects "Collationer$Elements" ⟨"Collationer$Elements", "lastWeight", "(ZI)I"⟩ ⟨"Collationer$Elements", "lastWeight", "(ZI)I"⟩ ∈ mGd := lp_2 (q := (⟨"Collationer$Elements", "lastWeight", "(ZI)I"⟩, 6)) (List.mem_of_getElem? (i := 9) rfl)

theorem gw_799 : Cond.code ({ cls := "Collationer$Elements", name := "lastWeight", desc := "(ZI)I" } : Jvm.MethodName) prog_5_method_14_code (3 : Nat) (Option.some FieldType.int) ∈ mGd := lk_4 (List.mem_of_getElem? (i := 79) rfl) rfl

theorem gw_800 : Cond.methodLink "Collationer$Elements" (122 : Nat) ({ cls := "Collationer$Elements", name := "weightOn", desc := "(IZI)I" } : Jvm.MethodName) ∈ mGd := lk_4 (List.mem_of_getElem? (i := 80) rfl) rfl

theorem gw_802 : Cond.instanceMethod ({ cls := "Collationer$Elements", name := "weightOn", desc := "(IZI)I" } : Jvm.MethodName) ∈ mGd := lk_4 (List.mem_of_getElem? (i := 82) rfl) rfl

theorem gs_46 : Cond.selects "Collationer$Elements" ⟨"Collationer$Elements", "weightOn", "(IZI)I"⟩ ⟨"Collationer$Elements", "weightOn", "(IZI)I"⟩ ∈ mGd := lp_2 (q := (⟨"Collationer$Elements", "weightOn", "(IZI)I"⟩, 6)) (List.mem_of_getElem? (i := 10) rfl)

theorem gw_803 : Cond.code ({ cls := "Collationer$Elements", name := "weightOn", desc := "(IZI)I" } : Jvm.MethodName) prog_5_method_13_code (4 : Nat) (Option.some FieldType.int) ∈ mGd := lk_4 (List.mem_of_getElem? (i := 83) rfl) rfl

theorem gw_270 : Cond.methodLink "Collationer$Entry" (3 : Nat) ({ cls := "java/lang/Object", name := "<init>", desc := "()V" } : Jvm.MethodName) ∈ mGd := lk_2 (List.mem_of_getElem? (i := 30) rfl) rfl

theorem gw_274 : Cond.fieldLink "Collationer$Entry" (9 : Nat) "Collationer$Entry" "parent" "I" ∈ mGd := lk_2 (List.mem_of_getElem? (i := 34) rfl) rfl

theorem gw_271 : Cond.classLink "Collationer$Entry" (15 : Nat) "Collationer$Row" ∈ mGd := lk_2 (List.mem_of_getElem? (i := 31) rfl) rfl

theorem gw_272 : Cond.methodLink "Collationer$Entry" (17 : Nat) ({ cls := "Collationer$Row", name := "<init>", desc := "(I)V" } : Jvm.MethodName) ∈ mGd := lk_2 (List.mem_of_getElem? (i := 32) rfl) rfl

theorem gw_278 : Cond.fieldLink "Collationer$Entry" (20 : Nat) "Collationer$Entry" "locators" "LCollationer$Row;" ∈ mGd := lk_2 (List.mem_of_getElem? (i := 38) rfl) rfl

theorem gw_279 : Cond.fieldLink "Collationer$Entry" (24 : Nat) "Collationer$Entry" "staying" "LCollationer$Row;" ∈ mGd := lk_2 (List.mem_of_getElem? (i := 39) rfl) rfl

theorem gw_280 : Cond.fieldLink "Collationer$Entry" (27 : Nat) "Collationer$Entry" "seen" "I" ∈ mGd := lk_2 (List.mem_of_getElem? (i := 40) rfl) rfl

theorem gw_273 : Cond.fieldLink "Collationer$Entry" (30 : Nat) "Collationer$Entry" "textNumber" "I" ∈ mGd := lk_2 (List.mem_of_getElem? (i := 33) rfl) rfl

theorem gw_275 : Cond.fieldLink "Collationer$Entry" (33 : Nat) "Collationer$Entry" "indexSet" "I" ∈ mGd := lk_2 (List.mem_of_getElem? (i := 35) rfl) rfl

theorem gw_276 : Cond.fieldLink "Collationer$Entry" (36 : Nat) "Collationer$Entry" "formKind" "I" ∈ mGd := lk_2 (List.mem_of_getElem? (i := 36) rfl) rfl

theorem gw_277 : Cond.fieldLink "Collationer$Entry" (39 : Nat) "Collationer$Entry" "formSigns" "I" ∈ mGd := lk_2 (List.mem_of_getElem? (i := 37) rfl) rfl

theorem gw_1004 : Cond.methodLink "Collationer$Entry" (42 : Nat) ({ cls := "Collationer$Entry", name := "rankOf", desc := "(I)I" } : Jvm.MethodName) ∈ mGd := lk_5 (List.mem_of_getElem? (i := 44) rfl) rfl

theorem gw_1005 : Cond.static ({ cls := "Collationer$Entry", name := "rankOf", desc := "(I)I" } : Jvm.MethodName) ∈ mGd := lk_5 (List.mem_of_getElem? (i := 45) rfl) rfl

theorem gw_1006 : Cond.code ({ cls := "Collationer$Entry", name := "rankOf", desc := "(I)I" } : Jvm.MethodName) prog_6_method_13_code (1 : Nat) (Option.some FieldType.int) ∈ mGd := lk_5 (List.mem_of_getElem? (i := 46) rfl) rfl

theorem gw_12 : Cond.initialized "Collationer$Entry" ∈ mGd := lk_1 (List.mem_of_getElem? (i := 12) rfl) rfl

theorem gw_1001 : Cond.methodLink "Collationer$Entry" (46 : Nat) ({ cls := "Collationer$Entry", name := "locatorCode", desc := "(II)I" } : Jvm.MethodName) ∈ mGd := lk_5 (List.mem_of_getElem? (i := 41) rfl) rfl

theorem gw_1002 : Cond.static ({ cls := "Collationer$Entry", name := "locatorCode", desc := "(II)I" } : Jvm.MethodName) ∈ mGd := lk_5 (List.mem_of_getElem? (i := 42) rfl) rfl

theorem gw_1003 : Cond.code ({ cls := "Collationer$Entry", name := "locatorCode", desc := "(II)I" } : Jvm.MethodName) prog_6_method_14_code (2 : Nat) (Option.some FieldType.int) ∈ mGd := lk_5 (List.mem_of_getElem? (i := 43) rfl) rfl

theorem gw_1007 : Cond.methodLink "Collationer$Entry" (50 : Nat) ({ cls := "Collationer$Row", name := "has", desc := "(I)Z" } : Jvm.MethodName) ∈ mGd := lk_5 (List.mem_of_getElem? (i := 47) rfl) rfl

theorem gw_1013 : Cond.methodLink "Collationer$Entry" (54 : Nat) ({ cls := "Collationer$Row", name := "size", desc := "()I" } : Jvm.MethodName) ∈ mGd := lk_5 (List.mem_of_getElem? (i := 53) rfl) rfl

theorem gw_1014 : Cond.methodLink "Collationer$Entry" (58 : Nat) ({ cls := "Collationer$Row", name := "at", desc := "(I)I" } : Jvm.MethodName) ∈ mGd := lk_5 (List.mem_of_getElem? (i := 54) rfl) rfl

theorem gw_1015 : Cond.methodLink "Collationer$Entry" (61 : Nat) ({ cls := "Collationer$Row", name := "insert", desc := "(II)V" } : Jvm.MethodName) ∈ mGd := lk_5 (List.mem_of_getElem? (i := 55) rfl) rfl

theorem gw_846 : Cond.instanceMethod ({ cls := "Collationer$Row", name := "insert", desc := "(II)V" } : Jvm.MethodName) ∈ mGd := lk_4 (List.mem_of_getElem? (i := 126) rfl) rfl

theorem gw_847 : Cond.selects "Collationer$Row" ({ cls := "Collationer$Row", name := "insert", desc := "(II)V" } : Jvm.MethodName) ({ cls := "Collationer$Row", name := "insert", desc := "(II)V" } : Jvm.MethodName) ∈ mGd := lk_4 (List.mem_of_getElem? (i := 127) rfl) rfl

theorem gw_848 : Cond.code ({ cls := "Collationer$Row", name := "insert", desc := "(II)V" } : Jvm.MethodName) prog_10_method_7_code (4 : Nat) (Option.none : Option FieldType) ∈ mGd := lk_4 (List.mem_of_getElem? (i := 128) rfl) rfl

theorem gw_1123 : Cond.methodLink "Collationer$Entry" (65 : Nat) ({ cls := "Collationer$Row", name := "clear", desc := "()V" } : Jvm.MethodName) ∈ mGd := lk_5 (List.mem_of_getElem? (i := 163) rfl) rfl

theorem gw_1124 : Cond.methodLink "Collationer$Entry" (68 : Nat) ({ cls := "Collationer$Entry", name := "pageOf", desc := "(I)I" } : Jvm.MethodName) ∈ mGd := lk_5 (List.mem_of_getElem? (i := 164) rfl) rfl

theorem gw_1125 : Cond.static ({ cls := "Collationer$Entry", name := "pageOf", desc := "(I)I" } : Jvm.MethodName) ∈ mGd := lk_5 (List.mem_of_getElem? (i := 165) rfl) rfl

theorem gw_1126 : Cond.code ({ cls := "Collationer$Entry", name := "pageOf", desc := "(I)I" } : Jvm.MethodName) prog_6_method_15_code (1 : Nat) (Option.some FieldType.int) ∈ mGd := lk_5 (List.mem_of_getElem? (i := 166) rfl) rfl

theorem gw_1127 : Cond.methodLink "Collationer$Entry" (71 : Nat) ({ cls := "Collationer$Pins", name := "nextOf", desc := "(I)I" } : Jvm.MethodName) ∈ mGd := lk_5 (List.mem_of_getElem? (i := 167) rfl) rfl

theorem gw_1128 : Cond.instanceMethod ({ cls := "Collationer$Pins", name := "nextOf", desc := "(I)I" } : Jvm.MethodName) ∈ mGd := lk_5 (List.mem_of_getElem? (i := 168) rfl) rfl

theorem gw_1129 : Cond.selects "Collationer$Pins" ({ cls := "Collationer$Pins", name := "nextOf", desc := "(I)I" } : Jvm.MethodName) ({ cls := "Collationer$Pins", name := "nextOf", desc := "(I)I" } : Jvm.MethodName) ∈ mGd := lk_5 (List.mem_of_getElem? (i := 169) rfl) rfl

theorem gw_1130 : Cond.code ({ cls := "Collationer$Pins", name := "nextOf", desc := "(I)I" } : Jvm.MethodName) prog_9_method_6_code (6 : Nat) (Option.some FieldType.int) ∈ mGd := lk_5 (List.mem_of_getElem? (i := 170) rfl) rfl

theorem gw_7 : Cond.initialized "Collationer$Pins" ∈ mGd := lk_1 (List.mem_of_getElem? (i := 7) rfl) rfl

theorem gw_1131 : Cond.methodLink "Collationer$Entry" (76 : Nat) ({ cls := "Collationer$Entry", name := "sortOf", desc := "(I)I" } : Jvm.MethodName) ∈ mGd := lk_5 (List.mem_of_getElem? (i := 171) rfl) rfl

theorem gw_1132 : Cond.static ({ cls := "Collationer$Entry", name := "sortOf", desc := "(I)I" } : Jvm.MethodName) ∈ mGd := lk_5 (List.mem_of_getElem? (i := 172) rfl) rfl

theorem gw_1133 : Cond.code ({ cls := "Collationer$Entry", name := "sortOf", desc := "(I)I" } : Jvm.MethodName) prog_6_method_16_code (1 : Nat) (Option.some FieldType.int) ∈ mGd := lk_5 (List.mem_of_getElem? (i := 173) rfl) rfl

theorem gw_1134 : Cond.methodLink "Collationer$Entry" (79 : Nat) ({ cls := "Collationer$Row", name := "put", desc := "(I)V" } : Jvm.MethodName) ∈ mGd := lk_5 (List.mem_of_getElem? (i := 174) rfl) rfl

theorem gw_1135 : Cond.methodLink "Collationer$Entry" (82 : Nat) ({ cls := "Collationer$Row", name := "copy", desc := "(LCollationer$Row;)V" } : Jvm.MethodName) ∈ mGd := lk_5 (List.mem_of_getElem? (i := 175) rfl) rfl

theorem gw_858 : Cond.instanceMethod ({ cls := "Collationer$Row", name := "copy", desc := "(LCollationer$Row;)V" } : Jvm.MethodName) ∈ mGd := lk_4 (List.mem_of_getElem? (i := 138) rfl) rfl

theorem gw_859 : Cond.selects "Collationer$Row" ({ cls := "Collationer$Row", name := "copy", desc := "(LCollationer$Row;)V" } : Jvm.MethodName) ({ cls := "Collationer$Row", name := "copy", desc := "(LCollationer$Row;)V" } : Jvm.MethodName) ∈ mGd := lk_4 (List.mem_of_getElem? (i := 139) rfl) rfl

theorem gw_860 : Cond.code ({ cls := "Collationer$Row", name := "copy", desc := "(LCollationer$Row;)V" } : Jvm.MethodName) prog_10_method_11_code (2 : Nat) (Option.none : Option FieldType) ∈ mGd := lk_4 (List.mem_of_getElem? (i := 140) rfl) rfl

theorem gw_281 : Cond.fieldLink "Collationer$Entry" (86 : Nat) "Collationer$Entry" "seenAlso" "I" ∈ mGd := lk_2 (List.mem_of_getElem? (i := 41) rfl) rfl

theorem gw_1385 : Cond.methodLink "Collationer$Entry" (89 : Nat) ({ cls := "java/lang/Integer", name := "bitCount", desc := "(I)I" } : Jvm.MethodName) ∈ mGd := lk_6 (List.mem_of_getElem? (i := 185) rfl) rfl

theorem gw_1386 : Cond.static ({ cls := "java/lang/Integer", name := "bitCount", desc := "(I)I" } : Jvm.MethodName) ∈ mGd := lk_6 (List.mem_of_getElem? (i := 186) rfl) rfl

theorem gw_1387 : Cond.code ({ cls := "java/lang/Integer", name := "bitCount", desc := "(I)I" } : Jvm.MethodName) prog_18_method_49_code (1 : Nat) (Option.some FieldType.int) ∈ mGd := lk_6 (List.mem_of_getElem? (i := 187) rfl) rfl

theorem gw_20 : Cond.initialized "java/lang/Integer" ∈ mGd := lk_1 (List.mem_of_getElem? (i := 20) rfl) rfl

theorem gw_233 : Cond.methodLink "Collationer$Groups" (3 : Nat) ({ cls := "java/lang/Object", name := "<init>", desc := "()V" } : Jvm.MethodName) ∈ mGd := lk_1 (List.mem_of_getElem? (i := 233) rfl) rfl

theorem gw_234 : Cond.classLink "Collationer$Groups" (9 : Nat) "Collationer$Row" ∈ mGd := lk_1 (List.mem_of_getElem? (i := 234) rfl) rfl

theorem gw_235 : Cond.methodLink "Collationer$Groups" (11 : Nat) ({ cls := "Collationer$Row", name := "<init>", desc := "(I)V" } : Jvm.MethodName) ∈ mGd := lk_1 (List.mem_of_getElem? (i := 235) rfl) rfl

theorem gw_236 : Cond.fieldLink "Collationer$Groups" (14 : Nat) "Collationer$Groups" "sorts" "LCollationer$Row;" ∈ mGd := lk_1 (List.mem_of_getElem? (i := 236) rfl) rfl

theorem gw_237 : Cond.fieldLink "Collationer$Groups" (20 : Nat) "Collationer$Groups" "firsts" "LCollationer$Row;" ∈ mGd := lk_1 (List.mem_of_getElem? (i := 237) rfl) rfl

theorem gw_238 : Cond.fieldLink "Collationer$Groups" (23 : Nat) "Collationer$Groups" "lasts" "LCollationer$Row;" ∈ mGd := lk_1 (List.mem_of_getElem? (i := 238) rfl) rfl

theorem gw_1323 : Cond.methodLink "Collationer$Groups" (26 : Nat) ({ cls := "Collationer$Row", name := "size", desc := "()I" } : Jvm.MethodName) ∈ mGd := lk_6 (List.mem_of_getElem? (i := 123) rfl) rfl

theorem gw_1342 : Cond.constant "Collationer$Groups" (30 : Nat) (1000000 : Int32) ∈ mGd := lk_6 (List.mem_of_getElem? (i := 142) rfl) rfl

theorem gw_1324 : Cond.methodLink "Collationer$Groups" (31 : Nat) ({ cls := "Collationer$Row", name := "at", desc := "(I)I" } : Jvm.MethodName) ∈ mGd := lk_6 (List.mem_of_getElem? (i := 124) rfl) rfl

theorem gw_1322 : Cond.methodLink "Collationer$Groups" (35 : Nat) ({ cls := "Collationer$Row", name := "clear", desc := "()V" } : Jvm.MethodName) ∈ mGd := lk_6 (List.mem_of_getElem? (i := 122) rfl) rfl

theorem gw_1325 : Cond.methodLink "Collationer$Groups" (38 : Nat) ({ cls := "Collationer$Entry", name := "sortOf", desc := "(I)I" } : Jvm.MethodName) ∈ mGd := lk_6 (List.mem_of_getElem? (i := 125) rfl) rfl

theorem gw_1326 : Cond.methodLink "Collationer$Groups" (43 : Nat) ({ cls := "Collationer$Entry", name := "pageOf", desc := "(I)I" } : Jvm.MethodName) ∈ mGd := lk_6 (List.mem_of_getElem? (i := 126) rfl) rfl

theorem gw_1327 : Cond.methodLink "Collationer$Groups" (46 : Nat) ({ cls := "Collationer$Groups", name := "addPage", desc := "(II)V" } : Jvm.MethodName) ∈ mGd := lk_6 (List.mem_of_getElem? (i := 127) rfl) rfl

theorem gw_1329 : Cond.instanceMethod ({ cls := "Collationer$Groups", name := "addPage", desc := "(II)V" } : Jvm.MethodName) ∈ mGd := lk_6 (List.mem_of_getElem? (i := 129) rfl) rfl

theorem gs_75 : Cond.selects "Collationer$Groups" ⟨"Collationer$Groups", "addPage", "(II)V"⟩ ⟨"Collationer$Groups", "addPage", "(II)V"⟩ ∈ mGd := lp_3 (q := (⟨"Collationer$Groups", "addPage", "(II)V"⟩, 3)) (List.mem_of_getElem? (i := 8) rfl)

theorem gw_1330 : Cond.code ({ cls := "Collationer$Groups", name := "addPage", desc := "(II)V" } : Jvm.MethodName) prog_7_method_5_code (4 : Nat) (Option.none : Option FieldType) ∈ mGd := lk_6 (List.mem_of_getElem? (i := 130) rfl) rfl

theorem gw_10 : Cond.initialized "Collationer$Groups" ∈ mGd := lk_1 (List.mem_of_getElem? (i := 10) rfl) rfl

theorem gw_1333 : Cond.methodLink "Collationer$Groups" (50 : Nat) ({ cls := "Collationer$Groups", name := "joinFrom", desc := "(I)V" } : Jvm.MethodName) ∈ mGd := lk_6 (List.mem_of_getElem? (i := 133) rfl) rfl

theorem gw_1335 : Cond.instanceMethod ({ cls := "Collationer$Groups", name := "joinFrom", desc := "(I)V" } : Jvm.MethodName) ∈ mGd := lk_6 (List.mem_of_getElem? (i := 135) rfl) rfl

theorem gs_76 : Cond.selects "Collationer$Groups" ⟨"Collationer$Groups", "joinFrom", "(I)V"⟩ ⟨"Collationer$Groups", "joinFrom", "(I)V"⟩ ∈ mGd := lp_3 (q := (⟨"Collationer$Groups", "joinFrom", "(I)V"⟩, 3)) (List.mem_of_getElem? (i := 9) rfl)

theorem gw_1336 : Cond.code ({ cls := "Collationer$Groups", name := "joinFrom", desc := "(I)V" } : Jvm.MethodName) prog_7_method_6_code (4 : Nat) (Option.none : Option FieldType) ∈ mGd := lk_6 (List.mem_of_getElem? (i := 136) rfl) rfl

theorem gw_1331 : Cond.methodLink "Collationer$Groups" (53 : Nat) ({ cls := "Collationer$Row", name := "set", desc := "(II)V" } : Jvm.MethodName) ∈ mGd := lk_6 (List.mem_of_getElem? (i := 131) rfl) rfl

theorem gw_1332 : Cond.methodLink "Collationer$Groups" (56 : Nat) ({ cls := "Collationer$Row", name := "put", desc := "(I)V" } : Jvm.MethodName) ∈ mGd := lk_6 (List.mem_of_getElem? (i := 132) rfl) rfl

theorem gw_1337 : Cond.methodLink "Collationer$Groups" (59 : Nat) ({ cls := "Collationer$Row", name := "removeAt", desc := "(I)V" } : Jvm.MethodName) ∈ mGd := lk_6 (List.mem_of_getElem? (i := 137) rfl) rfl

theorem gw_874 : Cond.instanceMethod ({ cls := "Collationer$Row", name := "removeAt", desc := "(I)V" } : Jvm.MethodName) ∈ mGd := lk_4 (List.mem_of_getElem? (i := 154) rfl) rfl

theorem gw_875 : Cond.selects "Collationer$Row" ({ cls := "Collationer$Row", name := "removeAt", desc := "(I)V" } : Jvm.MethodName) ({ cls := "Collationer$Row", name := "removeAt", desc := "(I)V" } : Jvm.MethodName) ∈ mGd := lk_4 (List.mem_of_getElem? (i := 155) rfl) rfl

theorem gw_876 : Cond.code ({ cls := "Collationer$Row", name := "removeAt", desc := "(I)V" } : Jvm.MethodName) prog_10_method_8_code (3 : Nat) (Option.none : Option FieldType) ∈ mGd := lk_4 (List.mem_of_getElem? (i := 156) rfl) rfl

theorem gw_250 : Cond.methodLink "Collationer$Index" (3 : Nat) ({ cls := "java/lang/Object", name := "<init>", desc := "()V" } : Jvm.MethodName) ∈ mGd := lk_2 (List.mem_of_getElem? (i := 10) rfl) rfl

theorem gw_251 : Cond.classLink "Collationer$Index" (9 : Nat) "Collationer$Row" ∈ mGd := lk_2 (List.mem_of_getElem? (i := 11) rfl) rfl

theorem gw_252 : Cond.methodLink "Collationer$Index" (11 : Nat) ({ cls := "Collationer$Row", name := "<init>", desc := "(I)V" } : Jvm.MethodName) ∈ mGd := lk_2 (List.mem_of_getElem? (i := 12) rfl) rfl

theorem gw_253 : Cond.fieldLink "Collationer$Index" (14 : Nat) "Collationer$Index" "order" "LCollationer$Row;" ∈ mGd := lk_2 (List.mem_of_getElem? (i := 13) rfl) rfl

theorem gw_254 : Cond.fieldLink "Collationer$Index" (20 : Nat) "Collationer$Index" "firstWeights" "LCollationer$Row;" ∈ mGd := lk_2 (List.mem_of_getElem? (i := 14) rfl) rfl

theorem gw_255 : Cond.fieldLink "Collationer$Index" (23 : Nat) "Collationer$Index" "before" "LCollationer$Row;" ∈ mGd := lk_2 (List.mem_of_getElem? (i := 15) rfl) rfl

theorem gw_256 : Cond.fieldLink "Collationer$Index" (26 : Nat) "Collationer$Index" "isOrdered" "Z" ∈ mGd := lk_2 (List.mem_of_getElem? (i := 16) rfl) rfl

theorem gw_688 : Cond.methodLink "Collationer$Index" (30 : Nat) ({ cls := "Collationer$Row", name := "clear", desc := "()V" } : Jvm.MethodName) ∈ mGd := lk_3 (List.mem_of_getElem? (i := 208) rfl) rfl

theorem gw_823 : Cond.methodLink "Collationer$Index" (33 : Nat) ({ cls := "Collationer$Row", name := "put", desc := "(I)V" } : Jvm.MethodName) ∈ mGd := lk_4 (List.mem_of_getElem? (i := 103) rfl) rfl

theorem gw_1296 : Cond.methodLink "Collationer$Index" (36 : Nat) ({ cls := "Collationer$Row", name := "at", desc := "(I)I" } : Jvm.MethodName) ∈ mGd := lk_6 (List.mem_of_getElem? (i := 96) rfl) rfl

theorem gw_857 : Cond.methodLink "Collationer$Index" (40 : Nat) ({ cls := "Collationer$Row", name := "copy", desc := "(LCollationer$Row;)V" } : Jvm.MethodName) ∈ mGd := lk_4 (List.mem_of_getElem? (i := 137) rfl) rfl

theorem gw_161 : Cond.methodLink "Collationer$Pins" (3 : Nat) ({ cls := "java/lang/Object", name := "<init>", desc := "()V" } : Jvm.MethodName) ∈ mGd := lk_1 (List.mem_of_getElem? (i := 161) rfl) rfl

theorem gw_162 : Cond.classLink "Collationer$Pins" (9 : Nat) "Collationer$Row" ∈ mGd := lk_1 (List.mem_of_getElem? (i := 162) rfl) rfl

theorem gw_163 : Cond.methodLink "Collationer$Pins" (11 : Nat) ({ cls := "Collationer$Row", name := "<init>", desc := "(I)V" } : Jvm.MethodName) ∈ mGd := lk_1 (List.mem_of_getElem? (i := 163) rfl) rfl

theorem gw_164 : Cond.fieldLink "Collationer$Pins" (14 : Nat) "Collationer$Pins" "pages" "LCollationer$Row;" ∈ mGd := lk_1 (List.mem_of_getElem? (i := 164) rfl) rfl

theorem gw_165 : Cond.fieldLink "Collationer$Pins" (20 : Nat) "Collationer$Pins" "nexts" "LCollationer$Row;" ∈ mGd := lk_1 (List.mem_of_getElem? (i := 165) rfl) rfl

theorem gw_1098 : Cond.methodLink "Collationer$Pins" (23 : Nat) ({ cls := "Collationer$Row", name := "size", desc := "()I" } : Jvm.MethodName) ∈ mGd := lk_5 (List.mem_of_getElem? (i := 138) rfl) rfl

theorem gw_1099 : Cond.methodLink "Collationer$Pins" (27 : Nat) ({ cls := "Collationer$Row", name := "at", desc := "(I)I" } : Jvm.MethodName) ∈ mGd := lk_5 (List.mem_of_getElem? (i := 139) rfl) rfl

theorem gw_1110 : Cond.methodLink "Collationer$Pins" (31 : Nat) ({ cls := "Collationer$Row", name := "put", desc := "(I)V" } : Jvm.MethodName) ∈ mGd := lk_5 (List.mem_of_getElem? (i := 150) rfl) rfl

theorem gw_1140 : Cond.methodLink "Collationer$Pins" (34 : Nat) ({ cls := "Collationer$Row", name := "clear", desc := "()V" } : Jvm.MethodName) ∈ mGd := lk_5 (List.mem_of_getElem? (i := 180) rfl) rfl

theorem gw_51 : Cond.methodLink "Collationer$Row" (3 : Nat) ({ cls := "java/lang/Object", name := "<init>", desc := "()V" } : Jvm.MethodName) ∈ mGd := lk_1 (List.mem_of_getElem? (i := 51) rfl) rfl

theorem gw_52 : Cond.methodLink "Collationer$Row" (9 : Nat) ({ cls := "java/lang/Math", name := "max", desc := "(II)I" } : Jvm.MethodName) ∈ mGd := lk_1 (List.mem_of_getElem? (i := 52) rfl) rfl

theorem gw_55 : Cond.fieldLink "Collationer$Row" (15 : Nat) "Collationer$Row" "cells" "[I" ∈ mGd := lk_1 (List.mem_of_getElem? (i := 55) rfl) rfl

theorem gw_56 : Cond.fieldLink "Collationer$Row" (21 : Nat) "Collationer$Row" "size" "I" ∈ mGd := lk_1 (List.mem_of_getElem? (i := 56) rfl) rfl

theorem gw_705 : Cond.methodLink "Collationer$Row" (25 : Nat) ({ cls := "Collationer$Row", name := "size", desc := "()I" } : Jvm.MethodName) ∈ mGd := lk_3 (List.mem_of_getElem? (i := 225) rfl) rfl

theorem gw_706 : Cond.methodLink "Collationer$Row" (28 : Nat) ({ cls := "Collationer$Row", name := "at", desc := "(I)I" } : Jvm.MethodName) ∈ mGd := lk_3 (List.mem_of_getElem? (i := 226) rfl) rfl

theorem gw_707 : Cond.methodLink "Collationer$Row" (32 : Nat) ({ cls := "Collationer$Row", name := "put", desc := "(I)V" } : Jvm.MethodName) ∈ mGd := lk_3 (List.mem_of_getElem? (i := 227) rfl) rfl

theorem gw_861 : Cond.methodLink "Collationer$Row" (36 : Nat) ({ cls := "Collationer$Row", name := "clear", desc := "()V" } : Jvm.MethodName) ∈ mGd := lk_4 (List.mem_of_getElem? (i := 141) rfl) rfl

theorem gw_862 : Cond.methodLink "Collationer$Row" (39 : Nat) ({ cls := "Collationer$Row", name := "append", desc := "(LCollationer$Row;II)V" } : Jvm.MethodName) ∈ mGd := lk_4 (List.mem_of_getElem? (i := 142) rfl) rfl

theorem gw_659 : Cond.methodLink "Collationer$Row" (43 : Nat) ({ cls := "Collationer$Row", name := "placeOf", desc := "(I)I" } : Jvm.MethodName) ∈ mGd := lk_3 (List.mem_of_getElem? (i := 179) rfl) rfl

theorem gw_660 : Cond.instanceMethod ({ cls := "Collationer$Row", name := "placeOf", desc := "(I)I" } : Jvm.MethodName) ∈ mGd := lk_3 (List.mem_of_getElem? (i := 180) rfl) rfl

theorem gw_661 : Cond.selects "Collationer$Row" ({ cls := "Collationer$Row", name := "placeOf", desc := "(I)I" } : Jvm.MethodName) ({ cls := "Collationer$Row", name := "placeOf", desc := "(I)I" } : Jvm.MethodName) ∈ mGd := lk_3 (List.mem_of_getElem? (i := 181) rfl) rfl

theorem gw_662 : Cond.code ({ cls := "Collationer$Row", name := "placeOf", desc := "(I)I" } : Jvm.MethodName) prog_10_method_12_code (3 : Nat) (Option.some FieldType.int) ∈ mGd := lk_3 (List.mem_of_getElem? (i := 182) rfl) rfl

theorem gw_69 : Cond.methodLink "Collationer$Tailoring" (3 : Nat) ({ cls := "java/lang/Object", name := "<init>", desc := "()V" } : Jvm.MethodName) ∈ mGd := lk_1 (List.mem_of_getElem? (i := 69) rfl) rfl

theorem gw_70 : Cond.classLink "Collationer$Tailoring" (9 : Nat) "Collationer$Row" ∈ mGd := lk_1 (List.mem_of_getElem? (i := 70) rfl) rfl

theorem gw_71 : Cond.methodLink "Collationer$Tailoring" (11 : Nat) ({ cls := "Collationer$Row", name := "<init>", desc := "(I)V" } : Jvm.MethodName) ∈ mGd := lk_1 (List.mem_of_getElem? (i := 71) rfl) rfl

theorem gw_99 : Cond.fieldLink "Collationer$Tailoring" (14 : Nat) "Collationer$Tailoring" "items" "LCollationer$Row;" ∈ mGd := lk_1 (List.mem_of_getElem? (i := 99) rfl) rfl

theorem gw_100 : Cond.fieldLink "Collationer$Tailoring" (20 : Nat) "Collationer$Tailoring" "levels" "LCollationer$Row;" ∈ mGd := lk_1 (List.mem_of_getElem? (i := 100) rfl) rfl

theorem gw_101 : Cond.fieldLink "Collationer$Tailoring" (23 : Nat) "Collationer$Tailoring" "firsts" "LCollationer$Row;" ∈ mGd := lk_1 (List.mem_of_getElem? (i := 101) rfl) rfl

theorem gw_102 : Cond.fieldLink "Collationer$Tailoring" (26 : Nat) "Collationer$Tailoring" "seconds" "LCollationer$Row;" ∈ mGd := lk_1 (List.mem_of_getElem? (i := 102) rfl) rfl

theorem gw_103 : Cond.fieldLink "Collationer$Tailoring" (29 : Nat) "Collationer$Tailoring" "thirds" "LCollationer$Row;" ∈ mGd := lk_1 (List.mem_of_getElem? (i := 103) rfl) rfl

theorem gw_104 : Cond.fieldLink "Collationer$Tailoring" (32 : Nat) "Collationer$Tailoring" "severalItems" "LCollationer$Row;" ∈ mGd := lk_1 (List.mem_of_getElem? (i := 104) rfl) rfl

theorem gw_105 : Cond.fieldLink "Collationer$Tailoring" (35 : Nat) "Collationer$Tailoring" "severalSigns" "LCollationer$Row;" ∈ mGd := lk_1 (List.mem_of_getElem? (i := 105) rfl) rfl

theorem gw_106 : Cond.fieldLink "Collationer$Tailoring" (38 : Nat) "Collationer$Tailoring" "hows" "LCollationer$Row;" ∈ mGd := lk_1 (List.mem_of_getElem? (i := 106) rfl) rfl

theorem gw_107 : Cond.fieldLink "Collationer$Tailoring" (41 : Nat) "Collationer$Tailoring" "anchorCodes" "LCollationer$Row;" ∈ mGd := lk_1 (List.mem_of_getElem? (i := 107) rfl) rfl

theorem gw_108 : Cond.fieldLink "Collationer$Tailoring" (44 : Nat) "Collationer$Tailoring" "itemCodes" "LCollationer$Row;" ∈ mGd := lk_1 (List.mem_of_getElem? (i := 108) rfl) rfl

theorem gw_133 : Cond.arrayClass FieldType.boolean ∈ mGd := lk_1 (List.mem_of_getElem? (i := 133) rfl) rfl

theorem gw_109 : Cond.fieldLink "Collationer$Tailoring" (47 : Nat) "Collationer$Tailoring" "options" "[Z" ∈ mGd := lk_1 (List.mem_of_getElem? (i := 109) rfl) rfl

theorem gw_72 : Cond.methodLink "Collationer$Tailoring" (51 : Nat) ({ cls := "Collationer$Tailoring", name := "addItem", desc := "(II)V" } : Jvm.MethodName) ∈ mGd := lk_1 (List.mem_of_getElem? (i := 72) rfl) rfl

theorem gw_74 : Cond.instanceMethod ({ cls := "Collationer$Tailoring", name := "addItem", desc := "(II)V" } : Jvm.MethodName) ∈ mGd := lk_1 (List.mem_of_getElem? (i := 74) rfl) rfl

theorem gs_106 : Cond.selects "Collationer$Tailoring" ⟨"Collationer$Tailoring", "addItem", "(II)V"⟩ ⟨"Collationer$Tailoring", "addItem", "(II)V"⟩ ∈ mGd := lp_1 (q := (⟨"Collationer$Tailoring", "addItem", "(II)V"⟩, 11)) (List.mem_of_getElem? (i := 0) rfl)

theorem gw_75 : Cond.code ({ cls := "Collationer$Tailoring", name := "addItem", desc := "(II)V" } : Jvm.MethodName) prog_11_method_2_code (3 : Nat) (Option.none : Option FieldType) ∈ mGd := lk_1 (List.mem_of_getElem? (i := 75) rfl) rfl

theorem gw_83 : Cond.methodLink "Collationer$Tailoring" (55 : Nat) ({ cls := "Collationer$Tailoring", name := "weigh", desc := "()V" } : Jvm.MethodName) ∈ mGd := lk_1 (List.mem_of_getElem? (i := 83) rfl) rfl

theorem gw_85 : Cond.instanceMethod ({ cls := "Collationer$Tailoring", name := "weigh", desc := "()V" } : Jvm.MethodName) ∈ mGd := lk_1 (List.mem_of_getElem? (i := 85) rfl) rfl

theorem gs_107 : Cond.selects "Collationer$Tailoring" ⟨"Collationer$Tailoring", "weigh", "()V"⟩ ⟨"Collationer$Tailoring", "weigh", "()V"⟩ ∈ mGd := lp_1 (q := (⟨"Collationer$Tailoring", "weigh", "()V"⟩, 11)) (List.mem_of_getElem? (i := 1) rfl)

theorem gw_86 : Cond.code ({ cls := "Collationer$Tailoring", name := "weigh", desc := "()V" } : Jvm.MethodName) prog_11_method_3_code (6 : Nat) (Option.none : Option FieldType) ∈ mGd := lk_1 (List.mem_of_getElem? (i := 86) rfl) rfl

theorem gw_79 : Cond.methodLink "Collationer$Tailoring" (62 : Nat) ({ cls := "Collationer$Row", name := "put", desc := "(I)V" } : Jvm.MethodName) ∈ mGd := lk_1 (List.mem_of_getElem? (i := 79) rfl) rfl

theorem gw_87 : Cond.methodLink "Collationer$Tailoring" (65 : Nat) ({ cls := "Collationer$Row", name := "clear", desc := "()V" } : Jvm.MethodName) ∈ mGd := lk_1 (List.mem_of_getElem? (i := 87) rfl) rfl

theorem gw_91 : Cond.methodLink "Collationer$Tailoring" (68 : Nat) ({ cls := "Collationer$Row", name := "size", desc := "()I" } : Jvm.MethodName) ∈ mGd := lk_1 (List.mem_of_getElem? (i := 91) rfl) rfl

theorem gw_95 : Cond.methodLink "Collationer$Tailoring" (72 : Nat) ({ cls := "Collationer$Row", name := "at", desc := "(I)I" } : Jvm.MethodName) ∈ mGd := lk_1 (List.mem_of_getElem? (i := 95) rfl) rfl

theorem gw_1189 : Cond.constant "Collationer$Tailoring" (75 : Nat) (1000000 : Int32) ∈ mGd := lk_5 (List.mem_of_getElem? (i := 229) rfl) rfl

theorem gw_766 : Cond.methodLink "Collationer$Tailoring" (76 : Nat) ({ cls := "Collationer$Row", name := "placeOf", desc := "(I)I" } : Jvm.MethodName) ∈ mGd := lk_4 (List.mem_of_getElem? (i := 46) rfl) rfl

theorem gw_767 : Cond.methodLink "Collationer$Tailoring" (79 : Nat) ({ cls := "java/lang/Math", name := "max", desc := "(II)I" } : Jvm.MethodName) ∈ mGd := lk_4 (List.mem_of_getElem? (i := 47) rfl) rfl

theorem gw_643 : Cond.static ({ cls := "Collationer", name := "signsIn", desc := "(I)I" } : Jvm.MethodName) ∈ mGd := lk_3 (List.mem_of_getElem? (i := 163) rfl) rfl

theorem gw_644 : Cond.code ({ cls := "Collationer", name := "signsIn", desc := "(I)I" } : Jvm.MethodName) prog_1_method_60_code (1 : Nat) (Option.some FieldType.int) ∈ mGd := lk_3 (List.mem_of_getElem? (i := 164) rfl) rfl

theorem gw_646 : Cond.static ({ cls := "Collationer", name := "signIn", desc := "(II)I" } : Jvm.MethodName) ∈ mGd := lk_3 (List.mem_of_getElem? (i := 166) rfl) rfl

theorem gw_647 : Cond.code ({ cls := "Collationer", name := "signIn", desc := "(II)I" } : Jvm.MethodName) prog_1_method_61_code (4 : Nat) (Option.some FieldType.int) ∈ mGd := lk_3 (List.mem_of_getElem? (i := 167) rfl) rfl

theorem gw_790 : Cond.methodLink "Collationer$Tailoring" (91 : Nat) ({ cls := "Collationer$Elements", name := "put", desc := "(III)V" } : Jvm.MethodName) ∈ mGd := lk_4 (List.mem_of_getElem? (i := 70) rfl) rfl

theorem gw_639 : Cond.methodLink "Collationer$Tailoring" (96 : Nat) ({ cls := "Collationer$Tailoring", name := "canBeItem", desc := "(I)Z" } : Jvm.MethodName) ∈ mGd := lk_3 (List.mem_of_getElem? (i := 159) rfl) rfl

theorem gw_640 : Cond.static ({ cls := "Collationer$Tailoring", name := "canBeItem", desc := "(I)Z" } : Jvm.MethodName) ∈ mGd := lk_3 (List.mem_of_getElem? (i := 160) rfl) rfl

theorem gw_641 : Cond.code ({ cls := "Collationer$Tailoring", name := "canBeItem", desc := "(I)Z" } : Jvm.MethodName) prog_11_method_13_code (2 : Nat) (Option.some FieldType.boolean) ∈ mGd := lk_3 (List.mem_of_getElem? (i := 161) rfl) rfl

theorem gw_651 : Cond.methodLink "Collationer$Tailoring" (100 : Nat) ({ cls := "Collationer$Tailoring", name := "canSortAs", desc := "(II)Z" } : Jvm.MethodName) ∈ mGd := lk_3 (List.mem_of_getElem? (i := 171) rfl) rfl

theorem gw_653 : Cond.instanceMethod ({ cls := "Collationer$Tailoring", name := "canSortAs", desc := "(II)Z" } : Jvm.MethodName) ∈ mGd := lk_3 (List.mem_of_getElem? (i := 173) rfl) rfl

theorem gs_118 : Cond.selects "Collationer$Tailoring" ⟨"Collationer$Tailoring", "canSortAs", "(II)Z"⟩ ⟨"Collationer$Tailoring", "canSortAs", "(II)Z"⟩ ∈ mGd := lp_1 (q := (⟨"Collationer$Tailoring", "canSortAs", "(II)Z"⟩, 11)) (List.mem_of_getElem? (i := 12) rfl)

theorem gw_654 : Cond.code ({ cls := "Collationer$Tailoring", name := "canSortAs", desc := "(II)Z" } : Jvm.MethodName) prog_11_method_14_code (5 : Nat) (Option.some FieldType.boolean) ∈ mGd := lk_3 (List.mem_of_getElem? (i := 174) rfl) rfl

theorem gw_655 : Cond.methodLink "Collationer$Tailoring" (104 : Nat) ({ cls := "Collationer$Row", name := "has", desc := "(I)Z" } : Jvm.MethodName) ∈ mGd := lk_3 (List.mem_of_getElem? (i := 175) rfl) rfl

theorem gw_663 : Cond.methodLink "Collationer$Tailoring" (113 : Nat) ({ cls := "Collationer$Tailoring", name := "isOneOfSeveral", desc := "(I)Z" } : Jvm.MethodName) ∈ mGd := lk_3 (List.mem_of_getElem? (i := 183) rfl) rfl

theorem gw_665 : Cond.instanceMethod ({ cls := "Collationer$Tailoring", name := "isOneOfSeveral", desc := "(I)Z" } : Jvm.MethodName) ∈ mGd := lk_3 (List.mem_of_getElem? (i := 185) rfl) rfl

theorem gs_119 : Cond.selects "Collationer$Tailoring" ⟨"Collationer$Tailoring", "isOneOfSeveral", "(I)Z"⟩ ⟨"Collationer$Tailoring", "isOneOfSeveral", "(I)Z"⟩ ∈ mGd := lp_1 (q := (⟨"Collationer$Tailoring", "isOneOfSeveral", "(I)Z"⟩, 11)) (List.mem_of_getElem? (i := 13) rfl)

theorem gw_666 : Cond.code ({ cls := "Collationer$Tailoring", name := "isOneOfSeveral", desc := "(I)Z" } : Jvm.MethodName) prog_11_method_15_code (5 : Nat) (Option.some FieldType.boolean) ∈ mGd := lk_3 (List.mem_of_getElem? (i := 186) rfl) rfl

theorem gw_867 : Cond.methodLink "Collationer$Tailoring" (116 : Nat) ({ cls := "Collationer$Tailoring", name := "leaveList", desc := "(I)V" } : Jvm.MethodName) ∈ mGd := lk_4 (List.mem_of_getElem? (i := 147) rfl) rfl

theorem gw_869 : Cond.instanceMethod ({ cls := "Collationer$Tailoring", name := "leaveList", desc := "(I)V" } : Jvm.MethodName) ∈ mGd := lk_4 (List.mem_of_getElem? (i := 149) rfl) rfl

theorem gs_121 : Cond.selects "Collationer$Tailoring" ⟨"Collationer$Tailoring", "leaveList", "(I)V"⟩ ⟨"Collationer$Tailoring", "leaveList", "(I)V"⟩ ∈ mGd := lp_2 (q := (⟨"Collationer$Tailoring", "leaveList", "(I)V"⟩, 11)) (List.mem_of_getElem? (i := 13) rfl)

theorem gw_870 : Cond.code ({ cls := "Collationer$Tailoring", name := "leaveList", desc := "(I)V" } : Jvm.MethodName) prog_11_method_17_code (3 : Nat) (Option.none : Option FieldType) ∈ mGd := lk_4 (List.mem_of_getElem? (i := 150) rfl) rfl

theorem gw_877 : Cond.methodLink "Collationer$Tailoring" (119 : Nat) ({ cls := "Collationer$Tailoring", name := "leaveSeveral", desc := "(I)V" } : Jvm.MethodName) ∈ mGd := lk_4 (List.mem_of_getElem? (i := 157) rfl) rfl

theorem gw_879 : Cond.instanceMethod ({ cls := "Collationer$Tailoring", name := "leaveSeveral", desc := "(I)V" } : Jvm.MethodName) ∈ mGd := lk_4 (List.mem_of_getElem? (i := 159) rfl) rfl

theorem gs_122 : Cond.selects "Collationer$Tailoring" ⟨"Collationer$Tailoring", "leaveSeveral", "(I)V"⟩ ⟨"Collationer$Tailoring", "leaveSeveral", "(I)V"⟩ ∈ mGd := lp_2 (q := (⟨"Collationer$Tailoring", "leaveSeveral", "(I)V"⟩, 11)) (List.mem_of_getElem? (i := 14) rfl)

theorem gw_880 : Cond.code ({ cls := "Collationer$Tailoring", name := "leaveSeveral", desc := "(I)V" } : Jvm.MethodName) prog_11_method_18_code (3 : Nat) (Option.none : Option FieldType) ∈ mGd := lk_4 (List.mem_of_getElem? (i := 160) rfl) rfl

theorem gw_881 : Cond.methodLink "Collationer$Tailoring" (122 : Nat) ({ cls := "Collationer$Tailoring", name := "putAhead", desc := "(III)V" } : Jvm.MethodName) ∈ mGd := lk_4 (List.mem_of_getElem? (i := 161) rfl) rfl

theorem gw_883 : Cond.instanceMethod ({ cls := "Collationer$Tailoring", name := "putAhead", desc := "(III)V" } : Jvm.MethodName) ∈ mGd := lk_4 (List.mem_of_getElem? (i := 163) rfl) rfl

theorem gs_124 : Cond.selects "Collationer$Tailoring" ⟨"Collationer$Tailoring", "putAhead", "(III)V"⟩ ⟨"Collationer$Tailoring", "putAhead", "(III)V"⟩ ∈ mGd := lp_2 (q := (⟨"Collationer$Tailoring", "putAhead", "(III)V"⟩, 11)) (List.mem_of_getElem? (i := 15) rfl)

theorem gw_884 : Cond.code ({ cls := "Collationer$Tailoring", name := "putAhead", desc := "(III)V" } : Jvm.MethodName) prog_11_method_20_code (5 : Nat) (Option.none : Option FieldType) ∈ mGd := lk_4 (List.mem_of_getElem? (i := 164) rfl) rfl

theorem gw_886 : Cond.methodLink "Collationer$Tailoring" (125 : Nat) ({ cls := "Collationer$Tailoring", name := "putBehind", desc := "(III)V" } : Jvm.MethodName) ∈ mGd := lk_4 (List.mem_of_getElem? (i := 166) rfl) rfl

theorem gw_888 : Cond.instanceMethod ({ cls := "Collationer$Tailoring", name := "putBehind", desc := "(III)V" } : Jvm.MethodName) ∈ mGd := lk_4 (List.mem_of_getElem? (i := 168) rfl) rfl

theorem gs_123 : Cond.selects "Collationer$Tailoring" ⟨"Collationer$Tailoring", "putBehind", "(III)V"⟩ ⟨"Collationer$Tailoring", "putBehind", "(III)V"⟩ ∈ mGd := lp_3 (q := (⟨"Collationer$Tailoring", "putBehind", "(III)V"⟩, 11)) (List.mem_of_getElem? (i := 0) rfl)

theorem gw_889 : Cond.code ({ cls := "Collationer$Tailoring", name := "putBehind", desc := "(III)V" } : Jvm.MethodName) prog_11_method_19_code (5 : Nat) (Option.none : Option FieldType) ∈ mGd := lk_4 (List.mem_of_getElem? (i := 169) rfl) rfl

theorem gw_871 : Cond.methodLink "Collationer$Tailoring" (128 : Nat) ({ cls := "java/lang/Math", name := "min", desc := "(II)I" } : Jvm.MethodName) ∈ mGd := lk_4 (List.mem_of_getElem? (i := 151) rfl) rfl

theorem gw_840 : Cond.static ({ cls := "java/lang/Math", name := "min", desc := "(II)I" } : Jvm.MethodName) ∈ mGd := lk_4 (List.mem_of_getElem? (i := 120) rfl) rfl

theorem gw_841 : Cond.code ({ cls := "java/lang/Math", name := "min", desc := "(II)I" } : Jvm.MethodName) prog_19_method_69_code (2 : Nat) (Option.some FieldType.int) ∈ mGd := lk_4 (List.mem_of_getElem? (i := 121) rfl) rfl

theorem gw_872 : Cond.methodLink "Collationer$Tailoring" (131 : Nat) ({ cls := "Collationer$Row", name := "set", desc := "(II)V" } : Jvm.MethodName) ∈ mGd := lk_4 (List.mem_of_getElem? (i := 152) rfl) rfl

theorem gw_873 : Cond.methodLink "Collationer$Tailoring" (134 : Nat) ({ cls := "Collationer$Row", name := "removeAt", desc := "(I)V" } : Jvm.MethodName) ∈ mGd := lk_4 (List.mem_of_getElem? (i := 153) rfl) rfl

theorem gw_885 : Cond.methodLink "Collationer$Tailoring" (137 : Nat) ({ cls := "Collationer$Row", name := "insert", desc := "(II)V" } : Jvm.MethodName) ∈ mGd := lk_4 (List.mem_of_getElem? (i := 165) rfl) rfl

theorem gw_911 : Cond.methodLink "Collationer$Tailoring" (140 : Nat) ({ cls := "Collationer$Tailoring", name := "canTell", desc := "(III)Z" } : Jvm.MethodName) ∈ mGd := lk_4 (List.mem_of_getElem? (i := 191) rfl) rfl

theorem gw_636 : Cond.instanceMethod ({ cls := "Collationer$Tailoring", name := "canTell", desc := "(III)Z" } : Jvm.MethodName) ∈ mGd := lk_3 (List.mem_of_getElem? (i := 156) rfl) rfl

theorem gw_637 : Cond.selects "Collationer$Tailoring" ({ cls := "Collationer$Tailoring", name := "canTell", desc := "(III)Z" } : Jvm.MethodName) ({ cls := "Collationer$Tailoring", name := "canTell", desc := "(III)Z" } : Jvm.MethodName) ∈ mGd := lk_3 (List.mem_of_getElem? (i := 157) rfl) rfl

theorem gw_638 : Cond.code ({ cls := "Collationer$Tailoring", name := "canTell", desc := "(III)Z" } : Jvm.MethodName) prog_11_method_12_code (4 : Nat) (Option.some FieldType.boolean) ∈ mGd := lk_3 (List.mem_of_getElem? (i := 158) rfl) rfl

theorem gw_912 : Cond.methodLink "Collationer$Tailoring" (144 : Nat) ({ cls := "Collationer$Tailoring", name := "tell", desc := "(III)V" } : Jvm.MethodName) ∈ mGd := lk_4 (List.mem_of_getElem? (i := 192) rfl) rfl

theorem gw_864 : Cond.instanceMethod ({ cls := "Collationer$Tailoring", name := "tell", desc := "(III)V" } : Jvm.MethodName) ∈ mGd := lk_4 (List.mem_of_getElem? (i := 144) rfl) rfl

theorem gw_865 : Cond.selects "Collationer$Tailoring" ({ cls := "Collationer$Tailoring", name := "tell", desc := "(III)V" } : Jvm.MethodName) ({ cls := "Collationer$Tailoring", name := "tell", desc := "(III)V" } : Jvm.MethodName) ∈ mGd := lk_4 (List.mem_of_getElem? (i := 145) rfl) rfl

theorem gw_866 : Cond.code ({ cls := "Collationer$Tailoring", name := "tell", desc := "(III)V" } : Jvm.MethodName) prog_11_method_16_code (4 : Nat) (Option.none : Option FieldType) ∈ mGd := lk_4 (List.mem_of_getElem? (i := 146) rfl) rfl

theorem gw_906 : Cond.methodLink "Collationer$Tailoring" (147 : Nat) ({ cls := "Collationer$Row", name := "copy", desc := "(LCollationer$Row;)V" } : Jvm.MethodName) ∈ mGd := lk_4 (List.mem_of_getElem? (i := 186) rfl) rfl

theorem gw_26 : Cond.methodLink "Collationer" (3 : Nat) ({ cls := "java/lang/Object", name := "<init>", desc := "()V" } : Jvm.MethodName) ∈ mGd := lk_1 (List.mem_of_getElem? (i := 26) rfl) rfl

theorem gw_29 : Cond.classLink "Collationer" (9 : Nat) "Collationer$Compositions" ∈ mGd := lk_1 (List.mem_of_getElem? (i := 29) rfl) rfl

theorem gw_30 : Cond.instantiable "Collationer$Compositions" (3 : Nat) ∈ mGd := lk_1 (List.mem_of_getElem? (i := 30) rfl) rfl

theorem gw_31 : Cond.methodLink "Collationer" (11 : Nat) ({ cls := "Collationer$Compositions", name := "<init>", desc := "()V" } : Jvm.MethodName) ∈ mGd := lk_1 (List.mem_of_getElem? (i := 31) rfl) rfl

theorem gw_32 : Cond.instanceMethod ({ cls := "Collationer$Compositions", name := "<init>", desc := "()V" } : Jvm.MethodName) ∈ mGd := lk_1 (List.mem_of_getElem? (i := 32) rfl) rfl

theorem gw_33 : Cond.code ({ cls := "Collationer$Compositions", name := "<init>", desc := "()V" } : Jvm.MethodName) prog_3_method_1_code (2 : Nat) (Option.none : Option FieldType) ∈ mGd := lk_1 (List.mem_of_getElem? (i := 33) rfl) rfl

theorem gw_301 : Cond.fieldLink "Collationer" (12 : Nat) "Collationer" "compositions" "LCollationer$Compositions;" ∈ mGd := lk_2 (List.mem_of_getElem? (i := 61) rfl) rfl

theorem gw_46 : Cond.classLink "Collationer" (16 : Nat) "Collationer$Row" ∈ mGd := lk_1 (List.mem_of_getElem? (i := 46) rfl) rfl

theorem gw_48 : Cond.methodLink "Collationer" (18 : Nat) ({ cls := "Collationer$Row", name := "<init>", desc := "(I)V" } : Jvm.MethodName) ∈ mGd := lk_1 (List.mem_of_getElem? (i := 48) rfl) rfl

theorem gw_302 : Cond.fieldLink "Collationer" (21 : Nat) "Collationer" "draft" "LCollationer$Row;" ∈ mGd := lk_2 (List.mem_of_getElem? (i := 62) rfl) rfl

theorem gw_303 : Cond.fieldLink "Collationer" (25 : Nat) "Collationer" "ruleAnchor" "LCollationer$Row;" ∈ mGd := lk_2 (List.mem_of_getElem? (i := 63) rfl) rfl

theorem gw_304 : Cond.fieldLink "Collationer" (28 : Nat) "Collationer" "apartTexts" "[LCollationer$Row;" ∈ mGd := lk_2 (List.mem_of_getElem? (i := 64) rfl) rfl

theorem gw_63 : Cond.classLink "Collationer" (32 : Nat) "Collationer$Tailoring" ∈ mGd := lk_1 (List.mem_of_getElem? (i := 63) rfl) rfl

theorem gw_306 : Cond.fieldLink "Collationer" (34 : Nat) "Collationer" "tailorings" "[LCollationer$Tailoring;" ∈ mGd := lk_2 (List.mem_of_getElem? (i := 66) rfl) rfl

theorem gw_65 : Cond.instantiable "Collationer$Tailoring" (11 : Nat) ∈ mGd := lk_1 (List.mem_of_getElem? (i := 65) rfl) rfl

theorem gw_66 : Cond.methodLink "Collationer" (38 : Nat) ({ cls := "Collationer$Tailoring", name := "<init>", desc := "()V" } : Jvm.MethodName) ∈ mGd := lk_1 (List.mem_of_getElem? (i := 66) rfl) rfl

theorem gw_67 : Cond.instanceMethod ({ cls := "Collationer$Tailoring", name := "<init>", desc := "()V" } : Jvm.MethodName) ∈ mGd := lk_1 (List.mem_of_getElem? (i := 67) rfl) rfl

theorem gw_68 : Cond.code ({ cls := "Collationer$Tailoring", name := "<init>", desc := "()V" } : Jvm.MethodName) prog_11_method_1_code (2 : Nat) (Option.none : Option FieldType) ∈ mGd := lk_1 (List.mem_of_getElem? (i := 68) rfl) rfl

theorem gw_307 : Cond.fieldLink "Collationer" (39 : Nat) "Collationer" "trial" "LCollationer$Tailoring;" ∈ mGd := lk_2 (List.mem_of_getElem? (i := 67) rfl) rfl

theorem gw_308 : Cond.fieldLink "Collationer" (43 : Nat) "Collationer" "isHeading" "[Z" ∈ mGd := lk_2 (List.mem_of_getElem? (i := 68) rfl) rfl

theorem gw_134 : Cond.classLink "Collationer" (47 : Nat) "Collationer$Entry" ∈ mGd := lk_1 (List.mem_of_getElem? (i := 134) rfl) rfl

theorem gw_309 : Cond.fieldLink "Collationer" (49 : Nat) "Collationer" "allEntries" "[LCollationer$Entry;" ∈ mGd := lk_2 (List.mem_of_getElem? (i := 69) rfl) rfl

theorem gw_136 : Cond.classLink "Collationer" (53 : Nat) "Collationer$Index" ∈ mGd := lk_1 (List.mem_of_getElem? (i := 136) rfl) rfl

theorem gw_311 : Cond.fieldLink "Collationer" (55 : Nat) "Collationer" "orders" "[LCollationer$Index;" ∈ mGd := lk_2 (List.mem_of_getElem? (i := 71) rfl) rfl

theorem gw_138 : Cond.classLink "Collationer" (59 : Nat) "Collationer$Corpus" ∈ mGd := lk_1 (List.mem_of_getElem? (i := 138) rfl) rfl

theorem gw_139 : Cond.instantiable "Collationer$Corpus" (3 : Nat) ∈ mGd := lk_1 (List.mem_of_getElem? (i := 139) rfl) rfl

theorem gw_140 : Cond.methodLink "Collationer" (61 : Nat) ({ cls := "Collationer$Corpus", name := "<init>", desc := "()V" } : Jvm.MethodName) ∈ mGd := lk_1 (List.mem_of_getElem? (i := 140) rfl) rfl

theorem gw_141 : Cond.instanceMethod ({ cls := "Collationer$Corpus", name := "<init>", desc := "()V" } : Jvm.MethodName) ∈ mGd := lk_1 (List.mem_of_getElem? (i := 141) rfl) rfl

theorem gw_142 : Cond.code ({ cls := "Collationer$Corpus", name := "<init>", desc := "()V" } : Jvm.MethodName) prog_4_method_1_code (2 : Nat) (Option.none : Option FieldType) ∈ mGd := lk_1 (List.mem_of_getElem? (i := 142) rfl) rfl

theorem gw_312 : Cond.fieldLink "Collationer" (62 : Nat) "Collationer" "corpus" "LCollationer$Corpus;" ∈ mGd := lk_2 (List.mem_of_getElem? (i := 72) rfl) rfl

theorem gw_156 : Cond.classLink "Collationer" (66 : Nat) "Collationer$Pins" ∈ mGd := lk_1 (List.mem_of_getElem? (i := 156) rfl) rfl

theorem gw_157 : Cond.instantiable "Collationer$Pins" (2 : Nat) ∈ mGd := lk_1 (List.mem_of_getElem? (i := 157) rfl) rfl

theorem gw_159 : Cond.instanceMethod ({ cls := "Collationer$Pins", name := "<init>", desc := "()V" } : Jvm.MethodName) ∈ mGd := lk_1 (List.mem_of_getElem? (i := 159) rfl) rfl

theorem gw_160 : Cond.code ({ cls := "Collationer$Pins", name := "<init>", desc := "()V" } : Jvm.MethodName) prog_9_method_1_code (1 : Nat) (Option.none : Option FieldType) ∈ mGd := lk_1 (List.mem_of_getElem? (i := 160) rfl) rfl

theorem gw_313 : Cond.fieldLink "Collationer" (69 : Nat) "Collationer" "pins" "LCollationer$Pins;" ∈ mGd := lk_2 (List.mem_of_getElem? (i := 73) rfl) rfl

theorem gw_314 : Cond.fieldLink "Collationer" (73 : Nat) "Collationer" "columnWidth" "I" ∈ mGd := lk_2 (List.mem_of_getElem? (i := 74) rfl) rfl

theorem gw_315 : Cond.fieldLink "Collationer" (77 : Nat) "Collationer" "columnHeight" "I" ∈ mGd := lk_2 (List.mem_of_getElem? (i := 75) rfl) rfl

theorem gw_171 : Cond.classLink "Collationer" (80 : Nat) "Collationer$Collator" ∈ mGd := lk_1 (List.mem_of_getElem? (i := 171) rfl) rfl

theorem gw_172 : Cond.instantiable "Collationer$Collator" (7 : Nat) ∈ mGd := lk_1 (List.mem_of_getElem? (i := 172) rfl) rfl

theorem gw_174 : Cond.instanceMethod ({ cls := "Collationer$Collator", name := "<init>", desc := "()V" } : Jvm.MethodName) ∈ mGd := lk_1 (List.mem_of_getElem? (i := 174) rfl) rfl

theorem gw_175 : Cond.code ({ cls := "Collationer$Collator", name := "<init>", desc := "()V" } : Jvm.MethodName) prog_2_method_1_code (1 : Nat) (Option.none : Option FieldType) ∈ mGd := lk_1 (List.mem_of_getElem? (i := 175) rfl) rfl

theorem gw_316 : Cond.fieldLink "Collationer" (83 : Nat) "Collationer" "collator" "LCollationer$Collator;" ∈ mGd := lk_2 (List.mem_of_getElem? (i := 76) rfl) rfl

theorem gw_317 : Cond.fieldLink "Collationer" (87 : Nat) "Collationer" "keys" "[LCollationer$Row;" ∈ mGd := lk_2 (List.mem_of_getElem? (i := 77) rfl) rfl

theorem gw_318 : Cond.fieldLink "Collationer" (90 : Nat) "Collationer" "signRow" "LCollationer$Row;" ∈ mGd := lk_2 (List.mem_of_getElem? (i := 78) rfl) rfl

theorem gw_319 : Cond.fieldLink "Collationer" (93 : Nat) "Collationer" "orderRow" "LCollationer$Row;" ∈ mGd := lk_2 (List.mem_of_getElem? (i := 79) rfl) rfl

theorem gw_228 : Cond.classLink "Collationer" (96 : Nat) "Collationer$Groups" ∈ mGd := lk_1 (List.mem_of_getElem? (i := 228) rfl) rfl

theorem gw_229 : Cond.instantiable "Collationer$Groups" (3 : Nat) ∈ mGd := lk_1 (List.mem_of_getElem? (i := 229) rfl) rfl

theorem gw_231 : Cond.instanceMethod ({ cls := "Collationer$Groups", name := "<init>", desc := "()V" } : Jvm.MethodName) ∈ mGd := lk_1 (List.mem_of_getElem? (i := 231) rfl) rfl

theorem gw_232 : Cond.code ({ cls := "Collationer$Groups", name := "<init>", desc := "()V" } : Jvm.MethodName) prog_7_method_1_code (1 : Nat) (Option.none : Option FieldType) ∈ mGd := lk_1 (List.mem_of_getElem? (i := 232) rfl) rfl

theorem gw_320 : Cond.fieldLink "Collationer" (99 : Nat) "Collationer" "groups" "LCollationer$Groups;" ∈ mGd := lk_2 (List.mem_of_getElem? (i := 80) rfl) rfl

theorem gw_11 : Cond.initialized "Collationer$Index" ∈ mGd := lk_1 (List.mem_of_getElem? (i := 11) rfl) rfl

theorem gw_246 : Cond.instantiable "Collationer$Index" (4 : Nat) ∈ mGd := lk_2 (List.mem_of_getElem? (i := 6) rfl) rfl

theorem gw_248 : Cond.instanceMethod ({ cls := "Collationer$Index", name := "<init>", desc := "()V" } : Jvm.MethodName) ∈ mGd := lk_2 (List.mem_of_getElem? (i := 8) rfl) rfl

theorem gw_249 : Cond.code ({ cls := "Collationer$Index", name := "<init>", desc := "()V" } : Jvm.MethodName) prog_8_method_1_code (1 : Nat) (Option.none : Option FieldType) ∈ mGd := lk_2 (List.mem_of_getElem? (i := 9) rfl) rfl

theorem gw_266 : Cond.instantiable "Collationer$Entry" (9 : Nat) ∈ mGd := lk_2 (List.mem_of_getElem? (i := 26) rfl) rfl

theorem gw_268 : Cond.instanceMethod ({ cls := "Collationer$Entry", name := "<init>", desc := "()V" } : Jvm.MethodName) ∈ mGd := lk_2 (List.mem_of_getElem? (i := 28) rfl) rfl

theorem gw_269 : Cond.code ({ cls := "Collationer$Entry", name := "<init>", desc := "()V" } : Jvm.MethodName) prog_6_method_1_code (1 : Nat) (Option.none : Option FieldType) ∈ mGd := lk_2 (List.mem_of_getElem? (i := 29) rfl) rfl

theorem gw_425 : Cond.methodLink "Collationer" (105 : Nat) ({ cls := "Collationer", name := "isThere", desc := "(I)Z" } : Jvm.MethodName) ∈ mGd := lk_2 (List.mem_of_getElem? (i := 185) rfl) rfl

theorem gw_427 : Cond.instanceMethod ({ cls := "Collationer", name := "isThere", desc := "(I)Z" } : Jvm.MethodName) ∈ mGd := lk_2 (List.mem_of_getElem? (i := 187) rfl) rfl

theorem gs_165 : Cond.selects "Collationer" ⟨"Collationer", "isThere", "(I)Z"⟩ ⟨"Collationer", "isThere", "(I)Z"⟩ ∈ mGd := lp_1 (q := (⟨"Collationer", "isThere", "(I)Z"⟩, 20)) (List.mem_of_getElem? (i := 6) rfl)

theorem gw_428 : Cond.code ({ cls := "Collationer", name := "isThere", desc := "(I)Z" } : Jvm.MethodName) prog_1_method_39_code (2 : Nat) (Option.some FieldType.boolean) ∈ mGd := lk_2 (List.mem_of_getElem? (i := 188) rfl) rfl

theorem gw_437 : Cond.classLink "Collationer" (109 : Nat) "java/lang/IndexOutOfBoundsException" ∈ mGd := lk_2 (List.mem_of_getElem? (i := 197) rfl) rfl

theorem gw_17 : Cond.initialized "java/lang/IndexOutOfBoundsException" ∈ mGd := lk_1 (List.mem_of_getElem? (i := 17) rfl) rfl

theorem gw_366 : Cond.methodLink "Collationer" (116 : Nat) ({ cls := "Collationer$Row", name := "size", desc := "()I" } : Jvm.MethodName) ∈ mGd := lk_2 (List.mem_of_getElem? (i := 126) rfl) rfl

theorem gw_505 : Cond.classLink "Collationer" (120 : Nat) "java/lang/IllegalStateException" ∈ mGd := lk_3 (List.mem_of_getElem? (i := 25) rfl) rfl

theorem gw_18 : Cond.initialized "java/lang/IllegalStateException" ∈ mGd := lk_1 (List.mem_of_getElem? (i := 18) rfl) rfl

theorem gw_521 : Cond.methodLink "Collationer" (125 : Nat) ({ cls := "Collationer$Row", name := "put", desc := "(I)V" } : Jvm.MethodName) ∈ mGd := lk_3 (List.mem_of_getElem? (i := 41) rfl) rfl

theorem gw_529 : Cond.methodLink "Collationer" (128 : Nat) ({ cls := "Collationer$Compositions", name := "canBeBase", desc := "(I)Z" } : Jvm.MethodName) ∈ mGd := lk_3 (List.mem_of_getElem? (i := 49) rfl) rfl

theorem gw_530 : Cond.instanceMethod ({ cls := "Collationer$Compositions", name := "canBeBase", desc := "(I)Z" } : Jvm.MethodName) ∈ mGd := lk_3 (List.mem_of_getElem? (i := 50) rfl) rfl

theorem gw_531 : Cond.selects "Collationer$Compositions" ({ cls := "Collationer$Compositions", name := "canBeBase", desc := "(I)Z" } : Jvm.MethodName) ({ cls := "Collationer$Compositions", name := "canBeBase", desc := "(I)Z" } : Jvm.MethodName) ∈ mGd := lk_3 (List.mem_of_getElem? (i := 51) rfl) rfl

theorem gw_532 : Cond.code ({ cls := "Collationer$Compositions", name := "canBeBase", desc := "(I)Z" } : Jvm.MethodName) prog_3_method_6_code (2 : Nat) (Option.some FieldType.boolean) ∈ mGd := lk_3 (List.mem_of_getElem? (i := 52) rfl) rfl

theorem gw_536 : Cond.methodLink "Collationer" (131 : Nat) ({ cls := "Collationer", name := "isMark", desc := "(I)Z" } : Jvm.MethodName) ∈ mGd := lk_3 (List.mem_of_getElem? (i := 56) rfl) rfl

theorem gw_429 : Cond.methodLink "Collationer" (136 : Nat) ({ cls := "Collationer$Compositions", name := "has", desc := "(I)Z" } : Jvm.MethodName) ∈ mGd := lk_2 (List.mem_of_getElem? (i := 189) rfl) rfl

theorem gw_540 : Cond.methodLink "Collationer" (139 : Nat) ({ cls := "Collationer$Compositions", name := "composedOf", desc := "(II)I" } : Jvm.MethodName) ∈ mGd := lk_3 (List.mem_of_getElem? (i := 60) rfl) rfl

theorem gw_545 : Cond.methodLink "Collationer" (145 : Nat) ({ cls := "Collationer$Compositions", name := "tell", desc := "(III)V" } : Jvm.MethodName) ∈ mGd := lk_3 (List.mem_of_getElem? (i := 65) rfl) rfl

theorem gw_546 : Cond.instanceMethod ({ cls := "Collationer$Compositions", name := "tell", desc := "(III)V" } : Jvm.MethodName) ∈ mGd := lk_3 (List.mem_of_getElem? (i := 66) rfl) rfl

theorem gw_547 : Cond.selects "Collationer$Compositions" ({ cls := "Collationer$Compositions", name := "tell", desc := "(III)V" } : Jvm.MethodName) ({ cls := "Collationer$Compositions", name := "tell", desc := "(III)V" } : Jvm.MethodName) ∈ mGd := lk_3 (List.mem_of_getElem? (i := 67) rfl) rfl

theorem gw_548 : Cond.code ({ cls := "Collationer$Compositions", name := "tell", desc := "(III)V" } : Jvm.MethodName) prog_3_method_7_code (4 : Nat) (Option.none : Option FieldType) ∈ mGd := lk_3 (List.mem_of_getElem? (i := 68) rfl) rfl

theorem gw_549 : Cond.methodLink "Collationer" (149 : Nat) ({ cls := "Collationer$Compositions", name := "count", desc := "()I" } : Jvm.MethodName) ∈ mGd := lk_3 (List.mem_of_getElem? (i := 69) rfl) rfl

theorem gw_550 : Cond.instanceMethod ({ cls := "Collationer$Compositions", name := "count", desc := "()I" } : Jvm.MethodName) ∈ mGd := lk_3 (List.mem_of_getElem? (i := 70) rfl) rfl

theorem gw_551 : Cond.selects "Collationer$Compositions" ({ cls := "Collationer$Compositions", name := "count", desc := "()I" } : Jvm.MethodName) ({ cls := "Collationer$Compositions", name := "count", desc := "()I" } : Jvm.MethodName) ∈ mGd := lk_3 (List.mem_of_getElem? (i := 71) rfl) rfl

theorem gw_552 : Cond.code ({ cls := "Collationer$Compositions", name := "count", desc := "()I" } : Jvm.MethodName) prog_3_method_2_code (1 : Nat) (Option.some FieldType.int) ∈ mGd := lk_3 (List.mem_of_getElem? (i := 72) rfl) rfl

theorem gw_400 : Cond.methodLink "Collationer" (152 : Nat) ({ cls := "Collationer$Row", name := "isEmpty", desc := "()Z" } : Jvm.MethodName) ∈ mGd := lk_2 (List.mem_of_getElem? (i := 160) rfl) rfl

theorem gw_305 : Cond.fieldLink "Collationer" (156 : Nat) "Collationer" "textCount" "I" ∈ mGd := lk_2 (List.mem_of_getElem? (i := 65) rfl) rfl

theorem gw_561 : Cond.methodLink "Collationer" (161 : Nat) ({ cls := "Collationer", name := "textNumbered", desc := "(I)LCollationer$Row;" } : Jvm.MethodName) ∈ mGd := lk_3 (List.mem_of_getElem? (i := 81) rfl) rfl

theorem gw_563 : Cond.instanceMethod ({ cls := "Collationer", name := "textNumbered", desc := "(I)LCollationer$Row;" } : Jvm.MethodName) ∈ mGd := lk_3 (List.mem_of_getElem? (i := 83) rfl) rfl

theorem gs_169 : Cond.selects "Collationer" ⟨"Collationer", "textNumbered", "(I)LCollationer$Row;"⟩ ⟨"Collationer", "textNumbered", "(I)LCollationer$Row;"⟩ ∈ mGd := lp_1 (q := (⟨"Collationer", "textNumbered", "(I)LCollationer$Row;"⟩, 20)) (List.mem_of_getElem? (i := 9) rfl)

theorem gw_564 : Cond.code ({ cls := "Collationer", name := "textNumbered", desc := "(I)LCollationer$Row;" } : Jvm.MethodName) prog_1_method_43_code (2 : Nat) (Option.some (FieldType.object "Collationer$Row")) ∈ mGd := lk_3 (List.mem_of_getElem? (i := 84) rfl) rfl

theorem gw_565 : Cond.methodLink "Collationer" (165 : Nat) ({ cls := "Collationer$Compositions", name := "takeApart", desc := "(LCollationer$Row;LCollationer$Row;)V" } : Jvm.MethodName) ∈ mGd := lk_3 (List.mem_of_getElem? (i := 85) rfl) rfl

theorem gw_566 : Cond.instanceMethod ({ cls := "Collationer$Compositions", name := "takeApart", desc := "(LCollationer$Row;LCollationer$Row;)V" } : Jvm.MethodName) ∈ mGd := lk_3 (List.mem_of_getElem? (i := 86) rfl) rfl

theorem gw_567 : Cond.selects "Collationer$Compositions" ({ cls := "Collationer$Compositions", name := "takeApart", desc := "(LCollationer$Row;LCollationer$Row;)V" } : Jvm.MethodName) ({ cls := "Collationer$Compositions", name := "takeApart", desc := "(LCollationer$Row;LCollationer$Row;)V" } : Jvm.MethodName) ∈ mGd := lk_3 (List.mem_of_getElem? (i := 87) rfl) rfl

theorem gw_568 : Cond.code ({ cls := "Collationer$Compositions", name := "takeApart", desc := "(LCollationer$Row;LCollationer$Row;)V" } : Jvm.MethodName) prog_3_method_9_code (4 : Nat) (Option.none : Option FieldType) ∈ mGd := lk_3 (List.mem_of_getElem? (i := 88) rfl) rfl

theorem gw_367 : Cond.methodLink "Collationer" (169 : Nat) ({ cls := "Collationer$Row", name := "clear", desc := "()V" } : Jvm.MethodName) ∈ mGd := lk_2 (List.mem_of_getElem? (i := 127) rfl) rfl

theorem gw_611 : Cond.methodLink "Collationer" (174 : Nat) ({ cls := "Collationer", name := "isTailoring", desc := "(I)Z" } : Jvm.MethodName) ∈ mGd := lk_3 (List.mem_of_getElem? (i := 131) rfl) rfl

theorem gw_612 : Cond.static ({ cls := "Collationer", name := "isTailoring", desc := "(I)Z" } : Jvm.MethodName) ∈ mGd := lk_3 (List.mem_of_getElem? (i := 132) rfl) rfl

theorem gw_613 : Cond.code ({ cls := "Collationer", name := "isTailoring", desc := "(I)Z" } : Jvm.MethodName) prog_1_method_48_code (1 : Nat) (Option.some FieldType.boolean) ∈ mGd := lk_3 (List.mem_of_getElem? (i := 133) rfl) rfl

theorem gw_615 : Cond.classLink "Collationer" (179 : Nat) "java/lang/IllegalArgumentException" ∈ mGd := lk_3 (List.mem_of_getElem? (i := 135) rfl) rfl

theorem gw_19 : Cond.initialized "java/lang/IllegalArgumentException" ∈ mGd := lk_1 (List.mem_of_getElem? (i := 19) rfl) rfl

theorem gw_631 : Cond.methodLink "Collationer" (184 : Nat) ({ cls := "Collationer", name := "codeOf", desc := "(LCollationer$Row;II)I" } : Jvm.MethodName) ∈ mGd := lk_3 (List.mem_of_getElem? (i := 151) rfl) rfl

theorem gw_635 : Cond.methodLink "Collationer" (188 : Nat) ({ cls := "Collationer$Tailoring", name := "canTell", desc := "(III)Z" } : Jvm.MethodName) ∈ mGd := lk_3 (List.mem_of_getElem? (i := 155) rfl) rfl

theorem gw_668 : Cond.methodLink "Collationer" (194 : Nat) ({ cls := "Collationer", name := "orderOf", desc := "(I)LCollationer$Row;" } : Jvm.MethodName) ∈ mGd := lk_3 (List.mem_of_getElem? (i := 188) rfl) rfl

theorem gw_670 : Cond.instanceMethod ({ cls := "Collationer", name := "orderOf", desc := "(I)LCollationer$Row;" } : Jvm.MethodName) ∈ mGd := lk_3 (List.mem_of_getElem? (i := 190) rfl) rfl

theorem gs_188 : Cond.selects "Collationer" ⟨"Collationer", "orderOf", "(I)LCollationer$Row;"⟩ ⟨"Collationer", "orderOf", "(I)LCollationer$Row;"⟩ ∈ mGd := lp_1 (q := (⟨"Collationer", "orderOf", "(I)LCollationer$Row;"⟩, 20)) (List.mem_of_getElem? (i := 14) rfl)

theorem gw_671 : Cond.code ({ cls := "Collationer", name := "orderOf", desc := "(I)LCollationer$Row;" } : Jvm.MethodName) prog_1_method_62_code (4 : Nat) (Option.some (FieldType.object "Collationer$Row")) ∈ mGd := lk_3 (List.mem_of_getElem? (i := 191) rfl) rfl

theorem gw_853 : Cond.methodLink "Collationer" (197 : Nat) ({ cls := "Collationer$Index", name := "remember", desc := "(LCollationer$Row;)V" } : Jvm.MethodName) ∈ mGd := lk_4 (List.mem_of_getElem? (i := 133) rfl) rfl

theorem gw_854 : Cond.instanceMethod ({ cls := "Collationer$Index", name := "remember", desc := "(LCollationer$Row;)V" } : Jvm.MethodName) ∈ mGd := lk_4 (List.mem_of_getElem? (i := 134) rfl) rfl

theorem gw_855 : Cond.selects "Collationer$Index" ({ cls := "Collationer$Index", name := "remember", desc := "(LCollationer$Row;)V" } : Jvm.MethodName) ({ cls := "Collationer$Index", name := "remember", desc := "(LCollationer$Row;)V" } : Jvm.MethodName) ∈ mGd := lk_4 (List.mem_of_getElem? (i := 135) rfl) rfl

theorem gw_856 : Cond.code ({ cls := "Collationer$Index", name := "remember", desc := "(LCollationer$Row;)V" } : Jvm.MethodName) prog_8_method_9_code (2 : Nat) (Option.none : Option FieldType) ∈ mGd := lk_4 (List.mem_of_getElem? (i := 136) rfl) rfl

theorem gw_863 : Cond.methodLink "Collationer" (201 : Nat) ({ cls := "Collationer$Tailoring", name := "tell", desc := "(III)V" } : Jvm.MethodName) ∈ mGd := lk_4 (List.mem_of_getElem? (i := 143) rfl) rfl

theorem gw_890 : Cond.methodLink "Collationer" (202 : Nat) ({ cls := "Collationer$Tailoring", name := "ruleCount", desc := "()I" } : Jvm.MethodName) ∈ mGd := lk_4 (List.mem_of_getElem? (i := 170) rfl) rfl

theorem gw_891 : Cond.instanceMethod ({ cls := "Collationer$Tailoring", name := "ruleCount", desc := "()I" } : Jvm.MethodName) ∈ mGd := lk_4 (List.mem_of_getElem? (i := 171) rfl) rfl

theorem gw_892 : Cond.selects "Collationer$Tailoring" ({ cls := "Collationer$Tailoring", name := "ruleCount", desc := "()I" } : Jvm.MethodName) ({ cls := "Collationer$Tailoring", name := "ruleCount", desc := "()I" } : Jvm.MethodName) ∈ mGd := lk_4 (List.mem_of_getElem? (i := 172) rfl) rfl

theorem gw_893 : Cond.code ({ cls := "Collationer$Tailoring", name := "ruleCount", desc := "()I" } : Jvm.MethodName) prog_11_method_7_code (1 : Nat) (Option.some FieldType.int) ∈ mGd := lk_4 (List.mem_of_getElem? (i := 173) rfl) rfl

theorem gw_902 : Cond.methodLink "Collationer" (207 : Nat) ({ cls := "Collationer$Tailoring", name := "copyRules", desc := "(LCollationer$Tailoring;)V" } : Jvm.MethodName) ∈ mGd := lk_4 (List.mem_of_getElem? (i := 182) rfl) rfl

theorem gw_903 : Cond.instanceMethod ({ cls := "Collationer$Tailoring", name := "copyRules", desc := "(LCollationer$Tailoring;)V" } : Jvm.MethodName) ∈ mGd := lk_4 (List.mem_of_getElem? (i := 183) rfl) rfl

theorem gw_904 : Cond.selects "Collationer$Tailoring" ({ cls := "Collationer$Tailoring", name := "copyRules", desc := "(LCollationer$Tailoring;)V" } : Jvm.MethodName) ({ cls := "Collationer$Tailoring", name := "copyRules", desc := "(LCollationer$Tailoring;)V" } : Jvm.MethodName) ∈ mGd := lk_4 (List.mem_of_getElem? (i := 184) rfl) rfl

theorem gw_905 : Cond.code ({ cls := "Collationer$Tailoring", name := "copyRules", desc := "(LCollationer$Tailoring;)V" } : Jvm.MethodName) prog_11_method_22_code (2 : Nat) (Option.none : Option FieldType) ∈ mGd := lk_4 (List.mem_of_getElem? (i := 185) rfl) rfl

theorem gw_907 : Cond.methodLink "Collationer" (211 : Nat) ({ cls := "Collationer$Tailoring", name := "tellAll", desc := "(LCollationer$Tailoring;)Z" } : Jvm.MethodName) ∈ mGd := lk_4 (List.mem_of_getElem? (i := 187) rfl) rfl

theorem gw_908 : Cond.instanceMethod ({ cls := "Collationer$Tailoring", name := "tellAll", desc := "(LCollationer$Tailoring;)Z" } : Jvm.MethodName) ∈ mGd := lk_4 (List.mem_of_getElem? (i := 188) rfl) rfl

theorem gw_909 : Cond.selects "Collationer$Tailoring" ({ cls := "Collationer$Tailoring", name := "tellAll", desc := "(LCollationer$Tailoring;)Z" } : Jvm.MethodName) ({ cls := "Collationer$Tailoring", name := "tellAll", desc := "(LCollationer$Tailoring;)Z" } : Jvm.MethodName) ∈ mGd := lk_4 (List.mem_of_getElem? (i := 189) rfl) rfl

theorem gw_910 : Cond.code ({ cls := "Collationer$Tailoring", name := "tellAll", desc := "(LCollationer$Tailoring;)Z" } : Jvm.MethodName) prog_11_method_21_code (3 : Nat) (Option.some FieldType.boolean) ∈ mGd := lk_4 (List.mem_of_getElem? (i := 190) rfl) rfl

theorem gw_922 : Cond.methodLink "Collationer" (219 : Nat) ({ cls := "Collationer$Tailoring", name := "hasOption", desc := "(I)Z" } : Jvm.MethodName) ∈ mGd := lk_4 (List.mem_of_getElem? (i := 202) rfl) rfl

theorem gw_923 : Cond.methodLink "Collationer" (222 : Nat) ({ cls := "Collationer$Tailoring", name := "setOption", desc := "(IZ)V" } : Jvm.MethodName) ∈ mGd := lk_4 (List.mem_of_getElem? (i := 203) rfl) rfl

theorem gw_924 : Cond.instanceMethod ({ cls := "Collationer$Tailoring", name := "setOption", desc := "(IZ)V" } : Jvm.MethodName) ∈ mGd := lk_4 (List.mem_of_getElem? (i := 204) rfl) rfl

theorem gw_925 : Cond.selects "Collationer$Tailoring" ({ cls := "Collationer$Tailoring", name := "setOption", desc := "(IZ)V" } : Jvm.MethodName) ({ cls := "Collationer$Tailoring", name := "setOption", desc := "(IZ)V" } : Jvm.MethodName) ∈ mGd := lk_4 (List.mem_of_getElem? (i := 205) rfl) rfl

theorem gw_926 : Cond.code ({ cls := "Collationer$Tailoring", name := "setOption", desc := "(IZ)V" } : Jvm.MethodName) prog_11_method_5_code (3 : Nat) (Option.none : Option FieldType) ∈ mGd := lk_4 (List.mem_of_getElem? (i := 206) rfl) rfl

theorem gw_942 : Cond.methodLink "Collationer" (228 : Nat) ({ cls := "Collationer", name := "hasEntry", desc := "(I)Z" } : Jvm.MethodName) ∈ mGd := lk_4 (List.mem_of_getElem? (i := 222) rfl) rfl

theorem gw_944 : Cond.instanceMethod ({ cls := "Collationer", name := "hasEntry", desc := "(I)Z" } : Jvm.MethodName) ∈ mGd := lk_4 (List.mem_of_getElem? (i := 224) rfl) rfl

theorem gs_167 : Cond.selects "Collationer" ⟨"Collationer", "hasEntry", "(I)Z"⟩ ⟨"Collationer", "hasEntry", "(I)Z"⟩ ∈ mGd := lp_3 (q := (⟨"Collationer", "hasEntry", "(I)Z"⟩, 20)) (List.mem_of_getElem? (i := 1) rfl)

theorem gw_945 : Cond.code ({ cls := "Collationer", name := "hasEntry", desc := "(I)Z" } : Jvm.MethodName) prog_1_method_41_code (2 : Nat) (Option.some FieldType.boolean) ∈ mGd := lk_4 (List.mem_of_getElem? (i := 225) rfl) rfl

theorem gw_946 : Cond.methodLink "Collationer" (231 : Nat) ({ cls := "Collationer", name := "hasText", desc := "(I)Z" } : Jvm.MethodName) ∈ mGd := lk_4 (List.mem_of_getElem? (i := 226) rfl) rfl

theorem gw_948 : Cond.instanceMethod ({ cls := "Collationer", name := "hasText", desc := "(I)Z" } : Jvm.MethodName) ∈ mGd := lk_4 (List.mem_of_getElem? (i := 228) rfl) rfl

theorem gs_166 : Cond.selects "Collationer" ⟨"Collationer", "hasText", "(I)Z"⟩ ⟨"Collationer", "hasText", "(I)Z"⟩ ∈ mGd := lp_3 (q := (⟨"Collationer", "hasText", "(I)Z"⟩, 20)) (List.mem_of_getElem? (i := 2) rfl)

theorem gw_949 : Cond.code ({ cls := "Collationer", name := "hasText", desc := "(I)Z" } : Jvm.MethodName) prog_1_method_40_code (2 : Nat) (Option.some FieldType.boolean) ∈ mGd := lk_4 (List.mem_of_getElem? (i := 229) rfl) rfl

theorem gw_388 : Cond.methodLink "Collationer" (238 : Nat) ({ cls := "Collationer", name := "entryNumbered", desc := "(I)LCollationer$Entry;" } : Jvm.MethodName) ∈ mGd := lk_2 (List.mem_of_getElem? (i := 148) rfl) rfl

theorem gw_390 : Cond.instanceMethod ({ cls := "Collationer", name := "entryNumbered", desc := "(I)LCollationer$Entry;" } : Jvm.MethodName) ∈ mGd := lk_2 (List.mem_of_getElem? (i := 150) rfl) rfl

theorem gs_171 : Cond.selects "Collationer" ⟨"Collationer", "entryNumbered", "(I)LCollationer$Entry;"⟩ ⟨"Collationer", "entryNumbered", "(I)LCollationer$Entry;"⟩ ∈ mGd := lp_1 (q := (⟨"Collationer", "entryNumbered", "(I)LCollationer$Entry;"⟩, 20)) (List.mem_of_getElem? (i := 4) rfl)

theorem gw_391 : Cond.code ({ cls := "Collationer", name := "entryNumbered", desc := "(I)LCollationer$Entry;" } : Jvm.MethodName) prog_1_method_45_code (2 : Nat) (Option.some (FieldType.object "Collationer$Entry")) ∈ mGd := lk_2 (List.mem_of_getElem? (i := 151) rfl) rfl

theorem gw_828 : Cond.methodLink "Collationer" (242 : Nat) ({ cls := "Collationer$Entry", name := "hasParent", desc := "()Z" } : Jvm.MethodName) ∈ mGd := lk_4 (List.mem_of_getElem? (i := 108) rfl) rfl

theorem gw_829 : Cond.instanceMethod ({ cls := "Collationer$Entry", name := "hasParent", desc := "()Z" } : Jvm.MethodName) ∈ mGd := lk_4 (List.mem_of_getElem? (i := 109) rfl) rfl

theorem gw_830 : Cond.selects "Collationer$Entry" ({ cls := "Collationer$Entry", name := "hasParent", desc := "()Z" } : Jvm.MethodName) ({ cls := "Collationer$Entry", name := "hasParent", desc := "()Z" } : Jvm.MethodName) ∈ mGd := lk_4 (List.mem_of_getElem? (i := 110) rfl) rfl

theorem gw_831 : Cond.code ({ cls := "Collationer$Entry", name := "hasParent", desc := "()Z" } : Jvm.MethodName) prog_6_method_5_code (1 : Nat) (Option.some FieldType.boolean) ∈ mGd := lk_4 (List.mem_of_getElem? (i := 111) rfl) rfl

theorem gw_310 : Cond.fieldLink "Collationer" (245 : Nat) "Collationer" "entryCount" "I" ∈ mGd := lk_2 (List.mem_of_getElem? (i := 70) rfl) rfl

theorem gw_953 : Cond.methodLink "Collationer" (250 : Nat) ({ cls := "Collationer$Entry", name := "indexSet", desc := "()I" } : Jvm.MethodName) ∈ mGd := lk_4 (List.mem_of_getElem? (i := 233) rfl) rfl

theorem gw_954 : Cond.instanceMethod ({ cls := "Collationer$Entry", name := "indexSet", desc := "()I" } : Jvm.MethodName) ∈ mGd := lk_4 (List.mem_of_getElem? (i := 234) rfl) rfl

theorem gw_955 : Cond.selects "Collationer$Entry" ({ cls := "Collationer$Entry", name := "indexSet", desc := "()I" } : Jvm.MethodName) ({ cls := "Collationer$Entry", name := "indexSet", desc := "()I" } : Jvm.MethodName) ∈ mGd := lk_4 (List.mem_of_getElem? (i := 235) rfl) rfl

theorem gw_956 : Cond.code ({ cls := "Collationer$Entry", name := "indexSet", desc := "()I" } : Jvm.MethodName) prog_6_method_6_code (1 : Nat) (Option.some FieldType.int) ∈ mGd := lk_4 (List.mem_of_getElem? (i := 236) rfl) rfl

theorem gw_957 : Cond.methodLink "Collationer" (253 : Nat) ({ cls := "Collationer$Entry", name := "begin", desc := "(III)V" } : Jvm.MethodName) ∈ mGd := lk_4 (List.mem_of_getElem? (i := 237) rfl) rfl

theorem gw_958 : Cond.instanceMethod ({ cls := "Collationer$Entry", name := "begin", desc := "(III)V" } : Jvm.MethodName) ∈ mGd := lk_4 (List.mem_of_getElem? (i := 238) rfl) rfl

theorem gw_959 : Cond.selects "Collationer$Entry" ({ cls := "Collationer$Entry", name := "begin", desc := "(III)V" } : Jvm.MethodName) ({ cls := "Collationer$Entry", name := "begin", desc := "(III)V" } : Jvm.MethodName) ∈ mGd := lk_4 (List.mem_of_getElem? (i := 239) rfl) rfl

theorem gw_960 : Cond.code ({ cls := "Collationer$Entry", name := "begin", desc := "(III)V" } : Jvm.MethodName) prog_6_method_2_code (4 : Nat) (Option.none : Option FieldType) ∈ mGd := lk_5 (List.mem_of_getElem? (i := 0) rfl) rfl

theorem gw_961 : Cond.methodLink "Collationer" (256 : Nat) ({ cls := "Collationer", name := "forgetOrders", desc := "()V" } : Jvm.MethodName) ∈ mGd := lk_5 (List.mem_of_getElem? (i := 1) rfl) rfl

theorem gw_963 : Cond.instanceMethod ({ cls := "Collationer", name := "forgetOrders", desc := "()V" } : Jvm.MethodName) ∈ mGd := lk_5 (List.mem_of_getElem? (i := 3) rfl) rfl

theorem gs_189 : Cond.selects "Collationer" ⟨"Collationer", "forgetOrders", "()V"⟩ ⟨"Collationer", "forgetOrders", "()V"⟩ ∈ mGd := lp_3 (q := (⟨"Collationer", "forgetOrders", "()V"⟩, 20)) (List.mem_of_getElem? (i := 3) rfl)

theorem gw_964 : Cond.code ({ cls := "Collationer", name := "forgetOrders", desc := "()V" } : Jvm.MethodName) prog_1_method_63_code (2 : Nat) (Option.none : Option FieldType) ∈ mGd := lk_5 (List.mem_of_getElem? (i := 4) rfl) rfl

theorem gw_693 : Cond.methodLink "Collationer" (261 : Nat) ({ cls := "Collationer$Entry", name := "textNumber", desc := "()I" } : Jvm.MethodName) ∈ mGd := lk_3 (List.mem_of_getElem? (i := 213) rfl) rfl

theorem gw_694 : Cond.instanceMethod ({ cls := "Collationer$Entry", name := "textNumber", desc := "()I" } : Jvm.MethodName) ∈ mGd := lk_3 (List.mem_of_getElem? (i := 214) rfl) rfl

theorem gw_695 : Cond.selects "Collationer$Entry" ({ cls := "Collationer$Entry", name := "textNumber", desc := "()I" } : Jvm.MethodName) ({ cls := "Collationer$Entry", name := "textNumber", desc := "()I" } : Jvm.MethodName) ∈ mGd := lk_3 (List.mem_of_getElem? (i := 215) rfl) rfl

theorem gw_696 : Cond.code ({ cls := "Collationer$Entry", name := "textNumber", desc := "()I" } : Jvm.MethodName) prog_6_method_3_code (1 : Nat) (Option.some FieldType.int) ∈ mGd := lk_3 (List.mem_of_getElem? (i := 216) rfl) rfl

theorem gw_978 : Cond.methodLink "Collationer" (266 : Nat) ({ cls := "Collationer$Entry", name := "formKind", desc := "()I" } : Jvm.MethodName) ∈ mGd := lk_5 (List.mem_of_getElem? (i := 18) rfl) rfl

theorem gw_979 : Cond.instanceMethod ({ cls := "Collationer$Entry", name := "formKind", desc := "()I" } : Jvm.MethodName) ∈ mGd := lk_5 (List.mem_of_getElem? (i := 19) rfl) rfl

theorem gw_980 : Cond.selects "Collationer$Entry" ({ cls := "Collationer$Entry", name := "formKind", desc := "()I" } : Jvm.MethodName) ({ cls := "Collationer$Entry", name := "formKind", desc := "()I" } : Jvm.MethodName) ∈ mGd := lk_5 (List.mem_of_getElem? (i := 20) rfl) rfl

theorem gw_981 : Cond.code ({ cls := "Collationer$Entry", name := "formKind", desc := "()I" } : Jvm.MethodName) prog_6_method_8_code (1 : Nat) (Option.some FieldType.int) ∈ mGd := lk_5 (List.mem_of_getElem? (i := 21) rfl) rfl

theorem gw_982 : Cond.methodLink "Collationer" (269 : Nat) ({ cls := "Collationer$Entry", name := "setForm", desc := "(II)V" } : Jvm.MethodName) ∈ mGd := lk_5 (List.mem_of_getElem? (i := 22) rfl) rfl

theorem gw_983 : Cond.instanceMethod ({ cls := "Collationer$Entry", name := "setForm", desc := "(II)V" } : Jvm.MethodName) ∈ mGd := lk_5 (List.mem_of_getElem? (i := 23) rfl) rfl

theorem gw_984 : Cond.selects "Collationer$Entry" ({ cls := "Collationer$Entry", name := "setForm", desc := "(II)V" } : Jvm.MethodName) ({ cls := "Collationer$Entry", name := "setForm", desc := "(II)V" } : Jvm.MethodName) ∈ mGd := lk_5 (List.mem_of_getElem? (i := 24) rfl) rfl

theorem gw_985 : Cond.code ({ cls := "Collationer$Entry", name := "setForm", desc := "(II)V" } : Jvm.MethodName) prog_6_method_11_code (3 : Nat) (Option.none : Option FieldType) ∈ mGd := lk_5 (List.mem_of_getElem? (i := 25) rfl) rfl

theorem gw_993 : Cond.methodLink "Collationer" (273 : Nat) ({ cls := "Collationer", name := "isPage", desc := "(I)Z" } : Jvm.MethodName) ∈ mGd := lk_5 (List.mem_of_getElem? (i := 33) rfl) rfl

theorem gw_994 : Cond.static ({ cls := "Collationer", name := "isPage", desc := "(I)Z" } : Jvm.MethodName) ∈ mGd := lk_5 (List.mem_of_getElem? (i := 34) rfl) rfl

theorem gw_995 : Cond.code ({ cls := "Collationer", name := "isPage", desc := "(I)Z" } : Jvm.MethodName) prog_1_method_50_code (1 : Nat) (Option.some FieldType.boolean) ∈ mGd := lk_5 (List.mem_of_getElem? (i := 35) rfl) rfl

theorem gw_997 : Cond.methodLink "Collationer" (278 : Nat) ({ cls := "Collationer$Entry", name := "hasLocator", desc := "(II)Z" } : Jvm.MethodName) ∈ mGd := lk_5 (List.mem_of_getElem? (i := 37) rfl) rfl

theorem gw_998 : Cond.instanceMethod ({ cls := "Collationer$Entry", name := "hasLocator", desc := "(II)Z" } : Jvm.MethodName) ∈ mGd := lk_5 (List.mem_of_getElem? (i := 38) rfl) rfl

theorem gw_999 : Cond.selects "Collationer$Entry" ({ cls := "Collationer$Entry", name := "hasLocator", desc := "(II)Z" } : Jvm.MethodName) ({ cls := "Collationer$Entry", name := "hasLocator", desc := "(II)Z" } : Jvm.MethodName) ∈ mGd := lk_5 (List.mem_of_getElem? (i := 39) rfl) rfl

theorem gw_1000 : Cond.code ({ cls := "Collationer$Entry", name := "hasLocator", desc := "(II)Z" } : Jvm.MethodName) prog_6_method_17_code (3 : Nat) (Option.some FieldType.boolean) ∈ mGd := lk_5 (List.mem_of_getElem? (i := 40) rfl) rfl

theorem gw_396 : Cond.methodLink "Collationer" (282 : Nat) ({ cls := "Collationer$Entry", name := "locators", desc := "()LCollationer$Row;" } : Jvm.MethodName) ∈ mGd := lk_2 (List.mem_of_getElem? (i := 156) rfl) rfl

theorem gw_397 : Cond.instanceMethod ({ cls := "Collationer$Entry", name := "locators", desc := "()LCollationer$Row;" } : Jvm.MethodName) ∈ mGd := lk_2 (List.mem_of_getElem? (i := 157) rfl) rfl

theorem gw_398 : Cond.selects "Collationer$Entry" ({ cls := "Collationer$Entry", name := "locators", desc := "()LCollationer$Row;" } : Jvm.MethodName) ({ cls := "Collationer$Entry", name := "locators", desc := "()LCollationer$Row;" } : Jvm.MethodName) ∈ mGd := lk_2 (List.mem_of_getElem? (i := 158) rfl) rfl

theorem gw_399 : Cond.code ({ cls := "Collationer$Entry", name := "locators", desc := "()LCollationer$Row;" } : Jvm.MethodName) prog_6_method_12_code (1 : Nat) (Option.some (FieldType.object "Collationer$Row")) ∈ mGd := lk_2 (List.mem_of_getElem? (i := 159) rfl) rfl

theorem gw_1009 : Cond.methodLink "Collationer" (288 : Nat) ({ cls := "Collationer$Entry", name := "addLocator", desc := "(II)V" } : Jvm.MethodName) ∈ mGd := lk_5 (List.mem_of_getElem? (i := 49) rfl) rfl

theorem gw_1010 : Cond.instanceMethod ({ cls := "Collationer$Entry", name := "addLocator", desc := "(II)V" } : Jvm.MethodName) ∈ mGd := lk_5 (List.mem_of_getElem? (i := 50) rfl) rfl

theorem gw_1011 : Cond.selects "Collationer$Entry" ({ cls := "Collationer$Entry", name := "addLocator", desc := "(II)V" } : Jvm.MethodName) ({ cls := "Collationer$Entry", name := "addLocator", desc := "(II)V" } : Jvm.MethodName) ∈ mGd := lk_5 (List.mem_of_getElem? (i := 51) rfl) rfl

theorem gw_1012 : Cond.code ({ cls := "Collationer$Entry", name := "addLocator", desc := "(II)V" } : Jvm.MethodName) prog_6_method_18_code (5 : Nat) (Option.none : Option FieldType) ∈ mGd := lk_5 (List.mem_of_getElem? (i := 52) rfl) rfl

theorem gw_404 : Cond.methodLink "Collationer" (291 : Nat) ({ cls := "Collationer$Entry", name := "seen", desc := "()I" } : Jvm.MethodName) ∈ mGd := lk_2 (List.mem_of_getElem? (i := 164) rfl) rfl

theorem gw_405 : Cond.instanceMethod ({ cls := "Collationer$Entry", name := "seen", desc := "()I" } : Jvm.MethodName) ∈ mGd := lk_2 (List.mem_of_getElem? (i := 165) rfl) rfl

theorem gw_406 : Cond.selects "Collationer$Entry" ({ cls := "Collationer$Entry", name := "seen", desc := "()I" } : Jvm.MethodName) ({ cls := "Collationer$Entry", name := "seen", desc := "()I" } : Jvm.MethodName) ∈ mGd := lk_2 (List.mem_of_getElem? (i := 166) rfl) rfl

theorem gw_407 : Cond.code ({ cls := "Collationer$Entry", name := "seen", desc := "()I" } : Jvm.MethodName) prog_6_method_20_code (1 : Nat) (Option.some FieldType.int) ∈ mGd := lk_2 (List.mem_of_getElem? (i := 167) rfl) rfl

theorem gw_412 : Cond.methodLink "Collationer" (296 : Nat) ({ cls := "Collationer$Entry", name := "seesAlso", desc := "(I)Z" } : Jvm.MethodName) ∈ mGd := lk_2 (List.mem_of_getElem? (i := 172) rfl) rfl

theorem gw_413 : Cond.instanceMethod ({ cls := "Collationer$Entry", name := "seesAlso", desc := "(I)Z" } : Jvm.MethodName) ∈ mGd := lk_2 (List.mem_of_getElem? (i := 173) rfl) rfl

theorem gw_414 : Cond.selects "Collationer$Entry" ({ cls := "Collationer$Entry", name := "seesAlso", desc := "(I)Z" } : Jvm.MethodName) ({ cls := "Collationer$Entry", name := "seesAlso", desc := "(I)Z" } : Jvm.MethodName) ∈ mGd := lk_2 (List.mem_of_getElem? (i := 174) rfl) rfl

theorem gw_415 : Cond.code ({ cls := "Collationer$Entry", name := "seesAlso", desc := "(I)Z" } : Jvm.MethodName) prog_6_method_21_code (2 : Nat) (Option.some FieldType.boolean) ∈ mGd := lk_2 (List.mem_of_getElem? (i := 175) rfl) rfl

theorem gw_1024 : Cond.methodLink "Collationer" (299 : Nat) ({ cls := "Collationer$Entry", name := "addReference", desc := "(IZ)V" } : Jvm.MethodName) ∈ mGd := lk_5 (List.mem_of_getElem? (i := 64) rfl) rfl

theorem gw_1025 : Cond.instanceMethod ({ cls := "Collationer$Entry", name := "addReference", desc := "(IZ)V" } : Jvm.MethodName) ∈ mGd := lk_5 (List.mem_of_getElem? (i := 65) rfl) rfl

theorem gw_1026 : Cond.selects "Collationer$Entry" ({ cls := "Collationer$Entry", name := "addReference", desc := "(IZ)V" } : Jvm.MethodName) ({ cls := "Collationer$Entry", name := "addReference", desc := "(IZ)V" } : Jvm.MethodName) ∈ mGd := lk_5 (List.mem_of_getElem? (i := 66) rfl) rfl

theorem gw_1027 : Cond.code ({ cls := "Collationer$Entry", name := "addReference", desc := "(IZ)V" } : Jvm.MethodName) prog_6_method_23_code (3 : Nat) (Option.none : Option FieldType) ∈ mGd := lk_5 (List.mem_of_getElem? (i := 67) rfl) rfl

theorem gw_1036 : Cond.methodLink "Collationer" (304 : Nat) ({ cls := "Collationer$Corpus", name := "wordCount", desc := "()I" } : Jvm.MethodName) ∈ mGd := lk_5 (List.mem_of_getElem? (i := 76) rfl) rfl

theorem gw_1037 : Cond.instanceMethod ({ cls := "Collationer$Corpus", name := "wordCount", desc := "()I" } : Jvm.MethodName) ∈ mGd := lk_5 (List.mem_of_getElem? (i := 77) rfl) rfl

theorem gw_1038 : Cond.selects "Collationer$Corpus" ({ cls := "Collationer$Corpus", name := "wordCount", desc := "()I" } : Jvm.MethodName) ({ cls := "Collationer$Corpus", name := "wordCount", desc := "()I" } : Jvm.MethodName) ∈ mGd := lk_5 (List.mem_of_getElem? (i := 78) rfl) rfl

theorem gw_1039 : Cond.code ({ cls := "Collationer$Corpus", name := "wordCount", desc := "()I" } : Jvm.MethodName) prog_4_method_2_code (1 : Nat) (Option.some FieldType.int) ∈ mGd := lk_5 (List.mem_of_getElem? (i := 79) rfl) rfl

theorem gw_1042 : Cond.methodLink "Collationer" (309 : Nat) ({ cls := "Collationer$Corpus", name := "addWord", desc := "(I)V" } : Jvm.MethodName) ∈ mGd := lk_5 (List.mem_of_getElem? (i := 82) rfl) rfl

theorem gw_1043 : Cond.instanceMethod ({ cls := "Collationer$Corpus", name := "addWord", desc := "(I)V" } : Jvm.MethodName) ∈ mGd := lk_5 (List.mem_of_getElem? (i := 83) rfl) rfl

theorem gw_1044 : Cond.selects "Collationer$Corpus" ({ cls := "Collationer$Corpus", name := "addWord", desc := "(I)V" } : Jvm.MethodName) ({ cls := "Collationer$Corpus", name := "addWord", desc := "(I)V" } : Jvm.MethodName) ∈ mGd := lk_5 (List.mem_of_getElem? (i := 84) rfl) rfl

theorem gw_1045 : Cond.code ({ cls := "Collationer$Corpus", name := "addWord", desc := "(I)V" } : Jvm.MethodName) prog_4_method_4_code (2 : Nat) (Option.none : Option FieldType) ∈ mGd := lk_5 (List.mem_of_getElem? (i := 85) rfl) rfl

theorem gw_1054 : Cond.methodLink "Collationer" (312 : Nat) ({ cls := "Collationer$Corpus", name := "readingsOf", desc := "(I)LCollationer$Row;" } : Jvm.MethodName) ∈ mGd := lk_5 (List.mem_of_getElem? (i := 94) rfl) rfl

theorem gw_1058 : Cond.methodLink "Collationer" (315 : Nat) ({ cls := "Collationer$Row", name := "has", desc := "(I)Z" } : Jvm.MethodName) ∈ mGd := lk_5 (List.mem_of_getElem? (i := 98) rfl) rfl

theorem gw_1067 : Cond.methodLink "Collationer" (318 : Nat) ({ cls := "Collationer$Corpus", name := "hasWord", desc := "(I)Z" } : Jvm.MethodName) ∈ mGd := lk_5 (List.mem_of_getElem? (i := 107) rfl) rfl

theorem gw_1068 : Cond.instanceMethod ({ cls := "Collationer$Corpus", name := "hasWord", desc := "(I)Z" } : Jvm.MethodName) ∈ mGd := lk_5 (List.mem_of_getElem? (i := 108) rfl) rfl

theorem gw_1069 : Cond.selects "Collationer$Corpus" ({ cls := "Collationer$Corpus", name := "hasWord", desc := "(I)Z" } : Jvm.MethodName) ({ cls := "Collationer$Corpus", name := "hasWord", desc := "(I)Z" } : Jvm.MethodName) ∈ mGd := lk_5 (List.mem_of_getElem? (i := 109) rfl) rfl

theorem gw_1070 : Cond.code ({ cls := "Collationer$Corpus", name := "hasWord", desc := "(I)Z" } : Jvm.MethodName) prog_4_method_3_code (2 : Nat) (Option.some FieldType.boolean) ∈ mGd := lk_5 (List.mem_of_getElem? (i := 110) rfl) rfl

theorem gw_1072 : Cond.methodLink "Collationer" (323 : Nat) ({ cls := "Collationer$Corpus", name := "textOf", desc := "(I)I" } : Jvm.MethodName) ∈ mGd := lk_5 (List.mem_of_getElem? (i := 112) rfl) rfl

theorem gw_1078 : Cond.methodLink "Collationer" (329 : Nat) ({ cls := "Collationer$Corpus", name := "readAs", desc := "(I)I" } : Jvm.MethodName) ∈ mGd := lk_5 (List.mem_of_getElem? (i := 118) rfl) rfl

theorem gw_1082 : Cond.methodLink "Collationer" (332 : Nat) ({ cls := "Collationer$Corpus", name := "setRead", desc := "(II)V" } : Jvm.MethodName) ∈ mGd := lk_5 (List.mem_of_getElem? (i := 122) rfl) rfl

theorem gw_1083 : Cond.instanceMethod ({ cls := "Collationer$Corpus", name := "setRead", desc := "(II)V" } : Jvm.MethodName) ∈ mGd := lk_5 (List.mem_of_getElem? (i := 123) rfl) rfl

theorem gw_1084 : Cond.selects "Collationer$Corpus" ({ cls := "Collationer$Corpus", name := "setRead", desc := "(II)V" } : Jvm.MethodName) ({ cls := "Collationer$Corpus", name := "setRead", desc := "(II)V" } : Jvm.MethodName) ∈ mGd := lk_5 (List.mem_of_getElem? (i := 124) rfl) rfl

theorem gw_1085 : Cond.code ({ cls := "Collationer$Corpus", name := "setRead", desc := "(II)V" } : Jvm.MethodName) prog_4_method_7_code (3 : Nat) (Option.none : Option FieldType) ∈ mGd := lk_5 (List.mem_of_getElem? (i := 125) rfl) rfl

theorem gw_1094 : Cond.methodLink "Collationer" (335 : Nat) ({ cls := "Collationer$Pins", name := "isAboveLast", desc := "(II)Z" } : Jvm.MethodName) ∈ mGd := lk_5 (List.mem_of_getElem? (i := 134) rfl) rfl

theorem gw_1095 : Cond.instanceMethod ({ cls := "Collationer$Pins", name := "isAboveLast", desc := "(II)Z" } : Jvm.MethodName) ∈ mGd := lk_5 (List.mem_of_getElem? (i := 135) rfl) rfl

theorem gw_1096 : Cond.selects "Collationer$Pins" ({ cls := "Collationer$Pins", name := "isAboveLast", desc := "(II)Z" } : Jvm.MethodName) ({ cls := "Collationer$Pins", name := "isAboveLast", desc := "(II)Z" } : Jvm.MethodName) ∈ mGd := lk_5 (List.mem_of_getElem? (i := 136) rfl) rfl

theorem gw_1097 : Cond.code ({ cls := "Collationer$Pins", name := "isAboveLast", desc := "(II)Z" } : Jvm.MethodName) prog_9_method_3_code (3 : Nat) (Option.some FieldType.boolean) ∈ mGd := lk_5 (List.mem_of_getElem? (i := 137) rfl) rfl

theorem gw_1101 : Cond.methodLink "Collationer" (340 : Nat) ({ cls := "Collationer$Pins", name := "count", desc := "()I" } : Jvm.MethodName) ∈ mGd := lk_5 (List.mem_of_getElem? (i := 141) rfl) rfl

theorem gw_1102 : Cond.instanceMethod ({ cls := "Collationer$Pins", name := "count", desc := "()I" } : Jvm.MethodName) ∈ mGd := lk_5 (List.mem_of_getElem? (i := 142) rfl) rfl

theorem gw_1103 : Cond.selects "Collationer$Pins" ({ cls := "Collationer$Pins", name := "count", desc := "()I" } : Jvm.MethodName) ({ cls := "Collationer$Pins", name := "count", desc := "()I" } : Jvm.MethodName) ∈ mGd := lk_5 (List.mem_of_getElem? (i := 143) rfl) rfl

theorem gw_1104 : Cond.code ({ cls := "Collationer$Pins", name := "count", desc := "()I" } : Jvm.MethodName) prog_9_method_2_code (1 : Nat) (Option.some FieldType.int) ∈ mGd := lk_5 (List.mem_of_getElem? (i := 144) rfl) rfl

theorem gw_1106 : Cond.methodLink "Collationer" (343 : Nat) ({ cls := "Collationer$Pins", name := "add", desc := "(II)V" } : Jvm.MethodName) ∈ mGd := lk_5 (List.mem_of_getElem? (i := 146) rfl) rfl

theorem gw_1107 : Cond.instanceMethod ({ cls := "Collationer$Pins", name := "add", desc := "(II)V" } : Jvm.MethodName) ∈ mGd := lk_5 (List.mem_of_getElem? (i := 147) rfl) rfl

theorem gw_1108 : Cond.selects "Collationer$Pins" ({ cls := "Collationer$Pins", name := "add", desc := "(II)V" } : Jvm.MethodName) ({ cls := "Collationer$Pins", name := "add", desc := "(II)V" } : Jvm.MethodName) ∈ mGd := lk_5 (List.mem_of_getElem? (i := 148) rfl) rfl

theorem gw_1109 : Cond.code ({ cls := "Collationer$Pins", name := "add", desc := "(II)V" } : Jvm.MethodName) prog_9_method_4_code (3 : Nat) (Option.none : Option FieldType) ∈ mGd := lk_5 (List.mem_of_getElem? (i := 149) rfl) rfl

theorem gw_1119 : Cond.methodLink "Collationer" (348 : Nat) ({ cls := "Collationer$Entry", name := "moveLocators", desc := "(LCollationer$Pins;)I" } : Jvm.MethodName) ∈ mGd := lk_5 (List.mem_of_getElem? (i := 159) rfl) rfl

theorem gw_1120 : Cond.instanceMethod ({ cls := "Collationer$Entry", name := "moveLocators", desc := "(LCollationer$Pins;)I" } : Jvm.MethodName) ∈ mGd := lk_5 (List.mem_of_getElem? (i := 160) rfl) rfl

theorem gw_1121 : Cond.selects "Collationer$Entry" ({ cls := "Collationer$Entry", name := "moveLocators", desc := "(LCollationer$Pins;)I" } : Jvm.MethodName) ({ cls := "Collationer$Entry", name := "moveLocators", desc := "(LCollationer$Pins;)I" } : Jvm.MethodName) ∈ mGd := lk_5 (List.mem_of_getElem? (i := 161) rfl) rfl

theorem gw_1122 : Cond.code ({ cls := "Collationer$Entry", name := "moveLocators", desc := "(LCollationer$Pins;)I" } : Jvm.MethodName) prog_6_method_19_code (6 : Nat) (Option.some FieldType.int) ∈ mGd := lk_5 (List.mem_of_getElem? (i := 162) rfl) rfl

theorem gw_1136 : Cond.methodLink "Collationer" (352 : Nat) ({ cls := "Collationer$Pins", name := "clear", desc := "()V" } : Jvm.MethodName) ∈ mGd := lk_5 (List.mem_of_getElem? (i := 176) rfl) rfl

theorem gw_1137 : Cond.instanceMethod ({ cls := "Collationer$Pins", name := "clear", desc := "()V" } : Jvm.MethodName) ∈ mGd := lk_5 (List.mem_of_getElem? (i := 177) rfl) rfl

theorem gw_1138 : Cond.selects "Collationer$Pins" ({ cls := "Collationer$Pins", name := "clear", desc := "()V" } : Jvm.MethodName) ({ cls := "Collationer$Pins", name := "clear", desc := "()V" } : Jvm.MethodName) ∈ mGd := lk_5 (List.mem_of_getElem? (i := 178) rfl) rfl

theorem gw_1139 : Cond.code ({ cls := "Collationer$Pins", name := "clear", desc := "()V" } : Jvm.MethodName) prog_9_method_5_code (1 : Nat) (Option.none : Option FieldType) ∈ mGd := lk_5 (List.mem_of_getElem? (i := 179) rfl) rfl

theorem gw_1148 : Cond.methodLink "Collationer" (353 : Nat) ({ cls := "Collationer", name := "isSide", desc := "(I)Z" } : Jvm.MethodName) ∈ mGd := lk_5 (List.mem_of_getElem? (i := 188) rfl) rfl

theorem gw_1149 : Cond.static ({ cls := "Collationer", name := "isSide", desc := "(I)Z" } : Jvm.MethodName) ∈ mGd := lk_5 (List.mem_of_getElem? (i := 189) rfl) rfl

theorem gw_1150 : Cond.code ({ cls := "Collationer", name := "isSide", desc := "(I)Z" } : Jvm.MethodName) prog_1_method_51_code (1 : Nat) (Option.some FieldType.boolean) ∈ mGd := lk_5 (List.mem_of_getElem? (i := 190) rfl) rfl

theorem gw_634 : Cond.methodLink "Collationer" (360 : Nat) ({ cls := "Collationer$Row", name := "at", desc := "(I)I" } : Jvm.MethodName) ∈ mGd := lk_3 (List.mem_of_getElem? (i := 154) rfl) rfl

theorem gw_1160 : Cond.methodLink "Collationer" (363 : Nat) ({ cls := "Collationer$Compositions", name := "putTogether", desc := "(LCollationer$Row;LCollationer$Row;)V" } : Jvm.MethodName) ∈ mGd := lk_5 (List.mem_of_getElem? (i := 200) rfl) rfl

theorem gw_1161 : Cond.instanceMethod ({ cls := "Collationer$Compositions", name := "putTogether", desc := "(LCollationer$Row;LCollationer$Row;)V" } : Jvm.MethodName) ∈ mGd := lk_5 (List.mem_of_getElem? (i := 201) rfl) rfl

theorem gw_1162 : Cond.selects "Collationer$Compositions" ({ cls := "Collationer$Compositions", name := "putTogether", desc := "(LCollationer$Row;LCollationer$Row;)V" } : Jvm.MethodName) ({ cls := "Collationer$Compositions", name := "putTogether", desc := "(LCollationer$Row;LCollationer$Row;)V" } : Jvm.MethodName) ∈ mGd := lk_5 (List.mem_of_getElem? (i := 202) rfl) rfl

theorem gw_1163 : Cond.code ({ cls := "Collationer$Compositions", name := "putTogether", desc := "(LCollationer$Row;LCollationer$Row;)V" } : Jvm.MethodName) prog_3_method_12_code (9 : Nat) (Option.none : Option FieldType) ∈ mGd := lk_5 (List.mem_of_getElem? (i := 203) rfl) rfl

theorem gw_1180 : Cond.methodLink "Collationer" (366 : Nat) ({ cls := "Collationer$Tailoring", name := "itemCount", desc := "()I" } : Jvm.MethodName) ∈ mGd := lk_5 (List.mem_of_getElem? (i := 220) rfl) rfl

theorem gw_1181 : Cond.instanceMethod ({ cls := "Collationer$Tailoring", name := "itemCount", desc := "()I" } : Jvm.MethodName) ∈ mGd := lk_5 (List.mem_of_getElem? (i := 221) rfl) rfl

theorem gw_1182 : Cond.selects "Collationer$Tailoring" ({ cls := "Collationer$Tailoring", name := "itemCount", desc := "()I" } : Jvm.MethodName) ({ cls := "Collationer$Tailoring", name := "itemCount", desc := "()I" } : Jvm.MethodName) ∈ mGd := lk_5 (List.mem_of_getElem? (i := 222) rfl) rfl

theorem gw_1183 : Cond.code ({ cls := "Collationer$Tailoring", name := "itemCount", desc := "()I" } : Jvm.MethodName) prog_11_method_6_code (1 : Nat) (Option.some FieldType.int) ∈ mGd := lk_5 (List.mem_of_getElem? (i := 223) rfl) rfl

theorem gw_1185 : Cond.methodLink "Collationer" (371 : Nat) ({ cls := "Collationer$Tailoring", name := "levelAndItem", desc := "(I)I" } : Jvm.MethodName) ∈ mGd := lk_5 (List.mem_of_getElem? (i := 225) rfl) rfl

theorem gw_1186 : Cond.instanceMethod ({ cls := "Collationer$Tailoring", name := "levelAndItem", desc := "(I)I" } : Jvm.MethodName) ∈ mGd := lk_5 (List.mem_of_getElem? (i := 226) rfl) rfl

theorem gw_1187 : Cond.selects "Collationer$Tailoring" ({ cls := "Collationer$Tailoring", name := "levelAndItem", desc := "(I)I" } : Jvm.MethodName) ({ cls := "Collationer$Tailoring", name := "levelAndItem", desc := "(I)I" } : Jvm.MethodName) ∈ mGd := lk_5 (List.mem_of_getElem? (i := 227) rfl) rfl

theorem gw_1188 : Cond.code ({ cls := "Collationer$Tailoring", name := "levelAndItem", desc := "(I)I" } : Jvm.MethodName) prog_11_method_8_code (2 : Nat) (Option.some FieldType.int) ∈ mGd := lk_5 (List.mem_of_getElem? (i := 228) rfl) rfl

theorem gw_1198 : Cond.methodLink "Collationer" (376 : Nat) ({ cls := "Collationer$Collator", name := "weightsAt", desc := "(LCollationer$Tailoring;LCollationer$Row;I)I" } : Jvm.MethodName) ∈ mGd := lk_5 (List.mem_of_getElem? (i := 238) rfl) rfl

theorem gw_1199 : Cond.instanceMethod ({ cls := "Collationer$Collator", name := "weightsAt", desc := "(LCollationer$Tailoring;LCollationer$Row;I)I" } : Jvm.MethodName) ∈ mGd := lk_5 (List.mem_of_getElem? (i := 239) rfl) rfl

theorem gw_1200 : Cond.selects "Collationer$Collator" ({ cls := "Collationer$Collator", name := "weightsAt", desc := "(LCollationer$Tailoring;LCollationer$Row;I)I" } : Jvm.MethodName) ({ cls := "Collationer$Collator", name := "weightsAt", desc := "(LCollationer$Tailoring;LCollationer$Row;I)I" } : Jvm.MethodName) ∈ mGd := lk_6 (List.mem_of_getElem? (i := 0) rfl) rfl

theorem gw_1201 : Cond.code ({ cls := "Collationer$Collator", name := "weightsAt", desc := "(LCollationer$Tailoring;LCollationer$Row;I)I" } : Jvm.MethodName) prog_2_method_2_code (4 : Nat) (Option.some FieldType.int) ∈ mGd := lk_6 (List.mem_of_getElem? (i := 1) rfl) rfl

theorem gw_1213 : Cond.methodLink "Collationer" (380 : Nat) ({ cls := "Collationer", name := "isStrength", desc := "(I)Z" } : Jvm.MethodName) ∈ mGd := lk_6 (List.mem_of_getElem? (i := 13) rfl) rfl

theorem gw_1214 : Cond.static ({ cls := "Collationer", name := "isStrength", desc := "(I)Z" } : Jvm.MethodName) ∈ mGd := lk_6 (List.mem_of_getElem? (i := 14) rfl) rfl

theorem gw_1215 : Cond.code ({ cls := "Collationer", name := "isStrength", desc := "(I)Z" } : Jvm.MethodName) prog_1_method_49_code (1 : Nat) (Option.some FieldType.boolean) ∈ mGd := lk_6 (List.mem_of_getElem? (i := 15) rfl) rfl

theorem gw_1217 : Cond.methodLink "Collationer" (385 : Nat) ({ cls := "Collationer$Collator", name := "byteAt", desc := "(LCollationer$Tailoring;ILCollationer$Row;I)I" } : Jvm.MethodName) ∈ mGd := lk_6 (List.mem_of_getElem? (i := 17) rfl) rfl

theorem gw_1218 : Cond.instanceMethod ({ cls := "Collationer$Collator", name := "byteAt", desc := "(LCollationer$Tailoring;ILCollationer$Row;I)I" } : Jvm.MethodName) ∈ mGd := lk_6 (List.mem_of_getElem? (i := 18) rfl) rfl

theorem gw_1219 : Cond.selects "Collationer$Collator" ({ cls := "Collationer$Collator", name := "byteAt", desc := "(LCollationer$Tailoring;ILCollationer$Row;I)I" } : Jvm.MethodName) ({ cls := "Collationer$Collator", name := "byteAt", desc := "(LCollationer$Tailoring;ILCollationer$Row;I)I" } : Jvm.MethodName) ∈ mGd := lk_6 (List.mem_of_getElem? (i := 19) rfl) rfl

theorem gw_1220 : Cond.code ({ cls := "Collationer$Collator", name := "byteAt", desc := "(LCollationer$Tailoring;ILCollationer$Row;I)I" } : Jvm.MethodName) prog_2_method_8_code (5 : Nat) (Option.some FieldType.int) ∈ mGd := lk_6 (List.mem_of_getElem? (i := 20) rfl) rfl

theorem gw_1230 : Cond.methodLink "Collationer" (391 : Nat) ({ cls := "Collationer$Collator", name := "compareByKeys", desc := "(LCollationer$Tailoring;ILCollationer$Row;LCollationer$Row;)I" } : Jvm.MethodName) ∈ mGd := lk_6 (List.mem_of_getElem? (i := 30) rfl) rfl

theorem gw_1231 : Cond.instanceMethod ({ cls := "Collationer$Collator", name := "compareByKeys", desc := "(LCollationer$Tailoring;ILCollationer$Row;LCollationer$Row;)I" } : Jvm.MethodName) ∈ mGd := lk_6 (List.mem_of_getElem? (i := 31) rfl) rfl

theorem gw_1232 : Cond.selects "Collationer$Collator" ({ cls := "Collationer$Collator", name := "compareByKeys", desc := "(LCollationer$Tailoring;ILCollationer$Row;LCollationer$Row;)I" } : Jvm.MethodName) ({ cls := "Collationer$Collator", name := "compareByKeys", desc := "(LCollationer$Tailoring;ILCollationer$Row;LCollationer$Row;)I" } : Jvm.MethodName) ∈ mGd := lk_6 (List.mem_of_getElem? (i := 32) rfl) rfl

theorem gw_1233 : Cond.code ({ cls := "Collationer$Collator", name := "compareByKeys", desc := "(LCollationer$Tailoring;ILCollationer$Row;LCollationer$Row;)I" } : Jvm.MethodName) prog_2_method_9_code (5 : Nat) (Option.some FieldType.int) ∈ mGd := lk_6 (List.mem_of_getElem? (i := 33) rfl) rfl

theorem gw_1242 : Cond.methodLink "Collationer" (395 : Nat) ({ cls := "Collationer$Collator", name := "compareByRows", desc := "(LCollationer$Tailoring;ILCollationer$Row;LCollationer$Row;)I" } : Jvm.MethodName) ∈ mGd := lk_6 (List.mem_of_getElem? (i := 42) rfl) rfl

theorem gw_1243 : Cond.instanceMethod ({ cls := "Collationer$Collator", name := "compareByRows", desc := "(LCollationer$Tailoring;ILCollationer$Row;LCollationer$Row;)I" } : Jvm.MethodName) ∈ mGd := lk_6 (List.mem_of_getElem? (i := 43) rfl) rfl

theorem gw_1244 : Cond.selects "Collationer$Collator" ({ cls := "Collationer$Collator", name := "compareByRows", desc := "(LCollationer$Tailoring;ILCollationer$Row;LCollationer$Row;)I" } : Jvm.MethodName) ({ cls := "Collationer$Collator", name := "compareByRows", desc := "(LCollationer$Tailoring;ILCollationer$Row;LCollationer$Row;)I" } : Jvm.MethodName) ∈ mGd := lk_6 (List.mem_of_getElem? (i := 44) rfl) rfl

theorem gw_1245 : Cond.code ({ cls := "Collationer$Collator", name := "compareByRows", desc := "(LCollationer$Tailoring;ILCollationer$Row;LCollationer$Row;)I" } : Jvm.MethodName) prog_2_method_10_code (7 : Nat) (Option.some FieldType.int) ∈ mGd := lk_6 (List.mem_of_getElem? (i := 45) rfl) rfl

theorem gw_1254 : Cond.methodLink "Collationer" (400 : Nat) ({ cls := "Collationer$Collator", name := "seek", desc := "(LCollationer$Tailoring;ILCollationer$Row;LCollationer$Row;I)I" } : Jvm.MethodName) ∈ mGd := lk_6 (List.mem_of_getElem? (i := 54) rfl) rfl

theorem gw_1255 : Cond.instanceMethod ({ cls := "Collationer$Collator", name := "seek", desc := "(LCollationer$Tailoring;ILCollationer$Row;LCollationer$Row;I)I" } : Jvm.MethodName) ∈ mGd := lk_6 (List.mem_of_getElem? (i := 55) rfl) rfl

theorem gw_1256 : Cond.selects "Collationer$Collator" ({ cls := "Collationer$Collator", name := "seek", desc := "(LCollationer$Tailoring;ILCollationer$Row;LCollationer$Row;I)I" } : Jvm.MethodName) ({ cls := "Collationer$Collator", name := "seek", desc := "(LCollationer$Tailoring;ILCollationer$Row;LCollationer$Row;I)I" } : Jvm.MethodName) ∈ mGd := lk_6 (List.mem_of_getElem? (i := 56) rfl) rfl

theorem gw_1257 : Cond.code ({ cls := "Collationer$Collator", name := "seek", desc := "(LCollationer$Tailoring;ILCollationer$Row;LCollationer$Row;I)I" } : Jvm.MethodName) prog_2_method_11_code (8 : Nat) (Option.some FieldType.int) ∈ mGd := lk_6 (List.mem_of_getElem? (i := 57) rfl) rfl

theorem gw_1283 : Cond.methodLink "Collationer" (406 : Nat) ({ cls := "Collationer", name := "isInIndex", desc := "(II)Z" } : Jvm.MethodName) ∈ mGd := lk_6 (List.mem_of_getElem? (i := 83) rfl) rfl

theorem gw_1285 : Cond.instanceMethod ({ cls := "Collationer", name := "isInIndex", desc := "(II)Z" } : Jvm.MethodName) ∈ mGd := lk_6 (List.mem_of_getElem? (i := 85) rfl) rfl

theorem gs_168 : Cond.selects "Collationer" ⟨"Collationer", "isInIndex", "(II)Z"⟩ ⟨"Collationer", "isInIndex", "(II)Z"⟩ ∈ mGd := lp_3 (q := (⟨"Collationer", "isInIndex", "(II)Z"⟩, 20)) (List.mem_of_getElem? (i := 5) rfl)

theorem gw_1286 : Cond.code ({ cls := "Collationer", name := "isInIndex", desc := "(II)Z" } : Jvm.MethodName) prog_1_method_42_code (3 : Nat) (Option.some FieldType.boolean) ∈ mGd := lk_6 (List.mem_of_getElem? (i := 86) rfl) rfl

theorem gw_1288 : Cond.methodLink "Collationer" (411 : Nat) ({ cls := "Collationer", name := "headingAbove", desc := "(II)I" } : Jvm.MethodName) ∈ mGd := lk_6 (List.mem_of_getElem? (i := 88) rfl) rfl

theorem gw_1290 : Cond.instanceMethod ({ cls := "Collationer", name := "headingAbove", desc := "(II)I" } : Jvm.MethodName) ∈ mGd := lk_6 (List.mem_of_getElem? (i := 90) rfl) rfl

theorem gs_194 : Cond.selects "Collationer" ⟨"Collationer", "headingAbove", "(II)I"⟩ ⟨"Collationer", "headingAbove", "(II)I"⟩ ∈ mGd := lp_3 (q := (⟨"Collationer", "headingAbove", "(II)I"⟩, 20)) (List.mem_of_getElem? (i := 6) rfl)

theorem gw_1291 : Cond.code ({ cls := "Collationer", name := "headingAbove", desc := "(II)I" } : Jvm.MethodName) prog_1_method_68_code (7 : Nat) (Option.some FieldType.int) ∈ mGd := lk_6 (List.mem_of_getElem? (i := 91) rfl) rfl

theorem gw_1318 : Cond.methodLink "Collationer" (416 : Nat) ({ cls := "Collationer$Groups", name := "gather", desc := "(LCollationer$Row;)V" } : Jvm.MethodName) ∈ mGd := lk_6 (List.mem_of_getElem? (i := 118) rfl) rfl

theorem gw_1319 : Cond.instanceMethod ({ cls := "Collationer$Groups", name := "gather", desc := "(LCollationer$Row;)V" } : Jvm.MethodName) ∈ mGd := lk_6 (List.mem_of_getElem? (i := 119) rfl) rfl

theorem gw_1320 : Cond.selects "Collationer$Groups" ({ cls := "Collationer$Groups", name := "gather", desc := "(LCollationer$Row;)V" } : Jvm.MethodName) ({ cls := "Collationer$Groups", name := "gather", desc := "(LCollationer$Row;)V" } : Jvm.MethodName) ∈ mGd := lk_6 (List.mem_of_getElem? (i := 120) rfl) rfl

theorem gw_1321 : Cond.code ({ cls := "Collationer$Groups", name := "gather", desc := "(LCollationer$Row;)V" } : Jvm.MethodName) prog_7_method_4_code (3 : Nat) (Option.none : Option FieldType) ∈ mGd := lk_6 (List.mem_of_getElem? (i := 121) rfl) rfl

theorem gw_1338 : Cond.methodLink "Collationer" (419 : Nat) ({ cls := "Collationer$Groups", name := "asNumber", desc := "(I)I" } : Jvm.MethodName) ∈ mGd := lk_6 (List.mem_of_getElem? (i := 138) rfl) rfl

theorem gw_1339 : Cond.instanceMethod ({ cls := "Collationer$Groups", name := "asNumber", desc := "(I)I" } : Jvm.MethodName) ∈ mGd := lk_6 (List.mem_of_getElem? (i := 139) rfl) rfl

theorem gw_1340 : Cond.selects "Collationer$Groups" ({ cls := "Collationer$Groups", name := "asNumber", desc := "(I)I" } : Jvm.MethodName) ({ cls := "Collationer$Groups", name := "asNumber", desc := "(I)I" } : Jvm.MethodName) ∈ mGd := lk_6 (List.mem_of_getElem? (i := 140) rfl) rfl

theorem gw_1341 : Cond.code ({ cls := "Collationer$Groups", name := "asNumber", desc := "(I)I" } : Jvm.MethodName) prog_7_method_3_code (2 : Nat) (Option.some FieldType.int) ∈ mGd := lk_6 (List.mem_of_getElem? (i := 141) rfl) rfl

theorem gw_380 : Cond.methodLink "Collationer" (422 : Nat) ({ cls := "Collationer", name := "endOfReferences", desc := "(I)I" } : Jvm.MethodName) ∈ mGd := lk_2 (List.mem_of_getElem? (i := 140) rfl) rfl

theorem gw_382 : Cond.instanceMethod ({ cls := "Collationer", name := "endOfReferences", desc := "(I)I" } : Jvm.MethodName) ∈ mGd := lk_2 (List.mem_of_getElem? (i := 142) rfl) rfl

theorem gs_197 : Cond.selects "Collationer" ⟨"Collationer", "endOfReferences", "(I)I"⟩ ⟨"Collationer", "endOfReferences", "(I)I"⟩ ∈ mGd := lp_1 (q := (⟨"Collationer", "endOfReferences", "(I)I"⟩, 20)) (List.mem_of_getElem? (i := 2) rfl)

theorem gw_383 : Cond.code ({ cls := "Collationer", name := "endOfReferences", desc := "(I)I" } : Jvm.MethodName) prog_1_method_71_code (4 : Nat) (Option.some FieldType.int) ∈ mGd := lk_2 (List.mem_of_getElem? (i := 143) rfl) rfl

theorem gw_408 : Cond.methodLink "Collationer" (425 : Nat) ({ cls := "Collationer", name := "referencesTo", desc := "(I)I" } : Jvm.MethodName) ∈ mGd := lk_2 (List.mem_of_getElem? (i := 168) rfl) rfl

theorem gw_410 : Cond.instanceMethod ({ cls := "Collationer", name := "referencesTo", desc := "(I)I" } : Jvm.MethodName) ∈ mGd := lk_2 (List.mem_of_getElem? (i := 170) rfl) rfl

theorem gs_199 : Cond.selects "Collationer" ⟨"Collationer", "referencesTo", "(I)I"⟩ ⟨"Collationer", "referencesTo", "(I)I"⟩ ∈ mGd := lp_1 (q := (⟨"Collationer", "referencesTo", "(I)I"⟩, 20)) (List.mem_of_getElem? (i := 5) rfl)

theorem gw_411 : Cond.code ({ cls := "Collationer", name := "referencesTo", desc := "(I)I" } : Jvm.MethodName) prog_1_method_73_code (4 : Nat) (Option.some FieldType.int) ∈ mGd := lk_2 (List.mem_of_getElem? (i := 171) rfl) rfl

theorem gw_1358 : Cond.methodLink "Collationer" (430 : Nat) ({ cls := "Collationer$Index", name := "before", desc := "()LCollationer$Row;" } : Jvm.MethodName) ∈ mGd := lk_6 (List.mem_of_getElem? (i := 158) rfl) rfl

theorem gw_1359 : Cond.instanceMethod ({ cls := "Collationer$Index", name := "before", desc := "()LCollationer$Row;" } : Jvm.MethodName) ∈ mGd := lk_6 (List.mem_of_getElem? (i := 159) rfl) rfl

theorem gw_1360 : Cond.selects "Collationer$Index" ({ cls := "Collationer$Index", name := "before", desc := "()LCollationer$Row;" } : Jvm.MethodName) ({ cls := "Collationer$Index", name := "before", desc := "()LCollationer$Row;" } : Jvm.MethodName) ∈ mGd := lk_6 (List.mem_of_getElem? (i := 160) rfl) rfl

theorem gw_1361 : Cond.code ({ cls := "Collationer$Index", name := "before", desc := "()LCollationer$Row;" } : Jvm.MethodName) prog_8_method_8_code (1 : Nat) (Option.some (FieldType.object "Collationer$Row")) ∈ mGd := lk_6 (List.mem_of_getElem? (i := 161) rfl) rfl

theorem gw_1369 : Cond.methodLink "Collationer" (433 : Nat) ({ cls := "Collationer", name := "lineInColumns", desc := "(ILCollationer$Row;I)I" } : Jvm.MethodName) ∈ mGd := lk_6 (List.mem_of_getElem? (i := 169) rfl) rfl

theorem gw_1371 : Cond.instanceMethod ({ cls := "Collationer", name := "lineInColumns", desc := "(ILCollationer$Row;I)I" } : Jvm.MethodName) ∈ mGd := lk_6 (List.mem_of_getElem? (i := 171) rfl) rfl

theorem gs_200 : Cond.selects "Collationer" ⟨"Collationer", "lineInColumns", "(ILCollationer$Row;I)I"⟩ ⟨"Collationer", "lineInColumns", "(ILCollationer$Row;I)I"⟩ ∈ mGd := lp_3 (q := (⟨"Collationer", "lineInColumns", "(ILCollationer$Row;I)I"⟩, 20)) (List.mem_of_getElem? (i := 10) rfl)

theorem gw_1372 : Cond.code ({ cls := "Collationer", name := "lineInColumns", desc := "(ILCollationer$Row;I)I" } : Jvm.MethodName) prog_1_method_74_code (14 : Nat) (Option.some FieldType.int) ∈ mGd := lk_6 (List.mem_of_getElem? (i := 172) rfl) rfl

theorem gw_1403 : Cond.methodLink "Collationer" (437 : Nat) ({ cls := "Collationer$Corpus", name := "countOf", desc := "(I)I" } : Jvm.MethodName) ∈ mGd := lk_6 (List.mem_of_getElem? (i := 203) rfl) rfl

theorem gw_1404 : Cond.instanceMethod ({ cls := "Collationer$Corpus", name := "countOf", desc := "(I)I" } : Jvm.MethodName) ∈ mGd := lk_6 (List.mem_of_getElem? (i := 204) rfl) rfl

theorem gw_1405 : Cond.selects "Collationer$Corpus" ({ cls := "Collationer$Corpus", name := "countOf", desc := "(I)I" } : Jvm.MethodName) ({ cls := "Collationer$Corpus", name := "countOf", desc := "(I)I" } : Jvm.MethodName) ∈ mGd := lk_6 (List.mem_of_getElem? (i := 205) rfl) rfl

theorem gw_1406 : Cond.code ({ cls := "Collationer$Corpus", name := "countOf", desc := "(I)I" } : Jvm.MethodName) prog_4_method_10_code (4 : Nat) (Option.some FieldType.int) ∈ mGd := lk_6 (List.mem_of_getElem? (i := 206) rfl) rfl

theorem gw_1417 : Cond.methodLink "Collationer" (442 : Nat) ({ cls := "Collationer", name := "orderLines", desc := "(IZ)V" } : Jvm.MethodName) ∈ mGd := lk_6 (List.mem_of_getElem? (i := 217) rfl) rfl

theorem gw_1419 : Cond.instanceMethod ({ cls := "Collationer", name := "orderLines", desc := "(IZ)V" } : Jvm.MethodName) ∈ mGd := lk_6 (List.mem_of_getElem? (i := 219) rfl) rfl

theorem gs_203 : Cond.selects "Collationer" ⟨"Collationer", "orderLines", "(IZ)V"⟩ ⟨"Collationer", "orderLines", "(IZ)V"⟩ ∈ mGd := lp_3 (q := (⟨"Collationer", "orderLines", "(IZ)V"⟩, 20)) (List.mem_of_getElem? (i := 13) rfl)

theorem gw_1420 : Cond.code ({ cls := "Collationer", name := "orderLines", desc := "(IZ)V" } : Jvm.MethodName) prog_1_method_77_code (4 : Nat) (Option.none : Option FieldType) ∈ mGd := lk_6 (List.mem_of_getElem? (i := 220) rfl) rfl

theorem gw_824 : Cond.methodLink "Collationer" (445 : Nat) ({ cls := "Collationer$Entry", name := "isIn", desc := "(I)Z" } : Jvm.MethodName) ∈ mGd := lk_4 (List.mem_of_getElem? (i := 104) rfl) rfl

theorem gw_825 : Cond.instanceMethod ({ cls := "Collationer$Entry", name := "isIn", desc := "(I)Z" } : Jvm.MethodName) ∈ mGd := lk_4 (List.mem_of_getElem? (i := 105) rfl) rfl

theorem gw_826 : Cond.selects "Collationer$Entry" ({ cls := "Collationer$Entry", name := "isIn", desc := "(I)Z" } : Jvm.MethodName) ({ cls := "Collationer$Entry", name := "isIn", desc := "(I)Z" } : Jvm.MethodName) ∈ mGd := lk_4 (List.mem_of_getElem? (i := 106) rfl) rfl

theorem gw_827 : Cond.code ({ cls := "Collationer$Entry", name := "isIn", desc := "(I)Z" } : Jvm.MethodName) prog_6_method_7_code (2 : Nat) (Option.some FieldType.boolean) ∈ mGd := lk_4 (List.mem_of_getElem? (i := 107) rfl) rfl

theorem gw_589 : Cond.fieldLink "Collationer" (448 : Nat) "Collationer" "MARK_CLASSES" "[I" ∈ mGd := lk_3 (List.mem_of_getElem? (i := 109) rfl) rfl

theorem gw_648 : Cond.methodLink "Collationer" (452 : Nat) ({ cls := "Collationer", name := "signsIn", desc := "(I)I" } : Jvm.MethodName) ∈ mGd := lk_3 (List.mem_of_getElem? (i := 168) rfl) rfl

theorem gw_672 : Cond.methodLink "Collationer" (455 : Nat) ({ cls := "Collationer", name := "indexNumbered", desc := "(I)LCollationer$Index;" } : Jvm.MethodName) ∈ mGd := lk_3 (List.mem_of_getElem? (i := 192) rfl) rfl

theorem gw_674 : Cond.instanceMethod ({ cls := "Collationer", name := "indexNumbered", desc := "(I)LCollationer$Index;" } : Jvm.MethodName) ∈ mGd := lk_3 (List.mem_of_getElem? (i := 194) rfl) rfl

theorem gs_173 : Cond.selects "Collationer" ⟨"Collationer", "indexNumbered", "(I)LCollationer$Index;"⟩ ⟨"Collationer", "indexNumbered", "(I)LCollationer$Index;"⟩ ∈ mGd := lp_1 (q := (⟨"Collationer", "indexNumbered", "(I)LCollationer$Index;"⟩, 20)) (List.mem_of_getElem? (i := 15) rfl)

theorem gw_675 : Cond.code ({ cls := "Collationer", name := "indexNumbered", desc := "(I)LCollationer$Index;" } : Jvm.MethodName) prog_1_method_47_code (2 : Nat) (Option.some (FieldType.object "Collationer$Index")) ∈ mGd := lk_3 (List.mem_of_getElem? (i := 195) rfl) rfl

theorem gw_676 : Cond.methodLink "Collationer" (459 : Nat) ({ cls := "Collationer$Index", name := "isOrdered", desc := "()Z" } : Jvm.MethodName) ∈ mGd := lk_3 (List.mem_of_getElem? (i := 196) rfl) rfl

theorem gw_677 : Cond.instanceMethod ({ cls := "Collationer$Index", name := "isOrdered", desc := "()Z" } : Jvm.MethodName) ∈ mGd := lk_3 (List.mem_of_getElem? (i := 197) rfl) rfl

theorem gw_678 : Cond.selects "Collationer$Index" ({ cls := "Collationer$Index", name := "isOrdered", desc := "()Z" } : Jvm.MethodName) ({ cls := "Collationer$Index", name := "isOrdered", desc := "()Z" } : Jvm.MethodName) ∈ mGd := lk_3 (List.mem_of_getElem? (i := 198) rfl) rfl

theorem gw_679 : Cond.code ({ cls := "Collationer$Index", name := "isOrdered", desc := "()Z" } : Jvm.MethodName) prog_8_method_2_code (1 : Nat) (Option.some FieldType.boolean) ∈ mGd := lk_3 (List.mem_of_getElem? (i := 199) rfl) rfl

theorem gw_680 : Cond.methodLink "Collationer" (462 : Nat) ({ cls := "Collationer$Index", name := "order", desc := "()LCollationer$Row;" } : Jvm.MethodName) ∈ mGd := lk_3 (List.mem_of_getElem? (i := 200) rfl) rfl

theorem gw_681 : Cond.instanceMethod ({ cls := "Collationer$Index", name := "order", desc := "()LCollationer$Row;" } : Jvm.MethodName) ∈ mGd := lk_3 (List.mem_of_getElem? (i := 201) rfl) rfl

theorem gw_682 : Cond.selects "Collationer$Index" ({ cls := "Collationer$Index", name := "order", desc := "()LCollationer$Row;" } : Jvm.MethodName) ({ cls := "Collationer$Index", name := "order", desc := "()LCollationer$Row;" } : Jvm.MethodName) ∈ mGd := lk_3 (List.mem_of_getElem? (i := 202) rfl) rfl

theorem gw_683 : Cond.code ({ cls := "Collationer$Index", name := "order", desc := "()LCollationer$Row;" } : Jvm.MethodName) prog_8_method_3_code (1 : Nat) (Option.some (FieldType.object "Collationer$Row")) ∈ mGd := lk_3 (List.mem_of_getElem? (i := 203) rfl) rfl

theorem gw_684 : Cond.methodLink "Collationer" (465 : Nat) ({ cls := "Collationer$Index", name := "begin", desc := "()V" } : Jvm.MethodName) ∈ mGd := lk_3 (List.mem_of_getElem? (i := 204) rfl) rfl

theorem gw_685 : Cond.instanceMethod ({ cls := "Collationer$Index", name := "begin", desc := "()V" } : Jvm.MethodName) ∈ mGd := lk_3 (List.mem_of_getElem? (i := 205) rfl) rfl

theorem gw_686 : Cond.selects "Collationer$Index" ({ cls := "Collationer$Index", name := "begin", desc := "()V" } : Jvm.MethodName) ({ cls := "Collationer$Index", name := "begin", desc := "()V" } : Jvm.MethodName) ∈ mGd := lk_3 (List.mem_of_getElem? (i := 206) rfl) rfl

theorem gw_687 : Cond.code ({ cls := "Collationer$Index", name := "begin", desc := "()V" } : Jvm.MethodName) prog_8_method_4_code (1 : Nat) (Option.none : Option FieldType) ∈ mGd := lk_3 (List.mem_of_getElem? (i := 207) rfl) rfl

theorem gw_689 : Cond.methodLink "Collationer" (467 : Nat) ({ cls := "Collationer", name := "putForm", desc := "(LCollationer$Entry;LCollationer$Row;)V" } : Jvm.MethodName) ∈ mGd := lk_3 (List.mem_of_getElem? (i := 209) rfl) rfl

theorem gw_691 : Cond.instanceMethod ({ cls := "Collationer", name := "putForm", desc := "(LCollationer$Entry;LCollationer$Row;)V" } : Jvm.MethodName) ∈ mGd := lk_3 (List.mem_of_getElem? (i := 211) rfl) rfl

theorem gs_193 : Cond.selects "Collationer" ⟨"Collationer", "putForm", "(LCollationer$Entry;LCollationer$Row;)V"⟩ ⟨"Collationer", "putForm", "(LCollationer$Entry;LCollationer$Row;)V"⟩ ∈ mGd := lp_2 (q := (⟨"Collationer", "putForm", "(LCollationer$Entry;LCollationer$Row;)V"⟩, 20)) (List.mem_of_getElem? (i := 0) rfl)

theorem gw_692 : Cond.code ({ cls := "Collationer", name := "putForm", desc := "(LCollationer$Entry;LCollationer$Row;)V" } : Jvm.MethodName) prog_1_method_67_code (4 : Nat) (Option.none : Option FieldType) ∈ mGd := lk_3 (List.mem_of_getElem? (i := 212) rfl) rfl

theorem gw_712 : Cond.methodLink "Collationer" (471 : Nat) ({ cls := "Collationer", name := "tailoringNumbered", desc := "(I)LCollationer$Tailoring;" } : Jvm.MethodName) ∈ mGd := lk_3 (List.mem_of_getElem? (i := 232) rfl) rfl

theorem gw_714 : Cond.instanceMethod ({ cls := "Collationer", name := "tailoringNumbered", desc := "(I)LCollationer$Tailoring;" } : Jvm.MethodName) ∈ mGd := lk_3 (List.mem_of_getElem? (i := 234) rfl) rfl

theorem gs_172 : Cond.selects "Collationer" ⟨"Collationer", "tailoringNumbered", "(I)LCollationer$Tailoring;"⟩ ⟨"Collationer", "tailoringNumbered", "(I)LCollationer$Tailoring;"⟩ ∈ mGd := lp_2 (q := (⟨"Collationer", "tailoringNumbered", "(I)LCollationer$Tailoring;"⟩, 20)) (List.mem_of_getElem? (i := 1) rfl)

theorem gw_715 : Cond.code ({ cls := "Collationer", name := "tailoringNumbered", desc := "(I)LCollationer$Tailoring;" } : Jvm.MethodName) prog_1_method_46_code (2 : Nat) (Option.some (FieldType.object "Collationer$Tailoring")) ∈ mGd := lk_3 (List.mem_of_getElem? (i := 235) rfl) rfl

theorem gw_716 : Cond.methodLink "Collationer" (475 : Nat) ({ cls := "Collationer", name := "keyNumbered", desc := "(I)LCollationer$Row;" } : Jvm.MethodName) ∈ mGd := lk_3 (List.mem_of_getElem? (i := 236) rfl) rfl

theorem gw_718 : Cond.instanceMethod ({ cls := "Collationer", name := "keyNumbered", desc := "(I)LCollationer$Row;" } : Jvm.MethodName) ∈ mGd := lk_3 (List.mem_of_getElem? (i := 238) rfl) rfl

theorem gs_170 : Cond.selects "Collationer" ⟨"Collationer", "keyNumbered", "(I)LCollationer$Row;"⟩ ⟨"Collationer", "keyNumbered", "(I)LCollationer$Row;"⟩ ∈ mGd := lp_2 (q := (⟨"Collationer", "keyNumbered", "(I)LCollationer$Row;"⟩, 20)) (List.mem_of_getElem? (i := 2) rfl)

theorem gw_719 : Cond.code ({ cls := "Collationer", name := "keyNumbered", desc := "(I)LCollationer$Row;" } : Jvm.MethodName) prog_1_method_44_code (2 : Nat) (Option.some (FieldType.object "Collationer$Row")) ∈ mGd := lk_3 (List.mem_of_getElem? (i := 239) rfl) rfl

theorem gw_720 : Cond.methodLink "Collationer" (478 : Nat) ({ cls := "Collationer$Collator", name := "putKey", desc := "(LCollationer$Tailoring;ILCollationer$Row;LCollationer$Row;)V" } : Jvm.MethodName) ∈ mGd := lk_4 (List.mem_of_getElem? (i := 0) rfl) rfl

theorem gw_816 : Cond.methodLink "Collationer" (482 : Nat) ({ cls := "Collationer$Collator", name := "firstWeightIn", desc := "(LCollationer$Row;)I" } : Jvm.MethodName) ∈ mGd := lk_4 (List.mem_of_getElem? (i := 96) rfl) rfl

theorem gw_817 : Cond.static ({ cls := "Collationer$Collator", name := "firstWeightIn", desc := "(LCollationer$Row;)I" } : Jvm.MethodName) ∈ mGd := lk_4 (List.mem_of_getElem? (i := 97) rfl) rfl

theorem gw_818 : Cond.code ({ cls := "Collationer$Collator", name := "firstWeightIn", desc := "(LCollationer$Row;)I" } : Jvm.MethodName) prog_2_method_4_code (1 : Nat) (Option.some FieldType.int) ∈ mGd := lk_4 (List.mem_of_getElem? (i := 98) rfl) rfl

theorem gw_819 : Cond.methodLink "Collationer" (486 : Nat) ({ cls := "Collationer$Index", name := "addFirstWeight", desc := "(I)V" } : Jvm.MethodName) ∈ mGd := lk_4 (List.mem_of_getElem? (i := 99) rfl) rfl

theorem gw_820 : Cond.instanceMethod ({ cls := "Collationer$Index", name := "addFirstWeight", desc := "(I)V" } : Jvm.MethodName) ∈ mGd := lk_4 (List.mem_of_getElem? (i := 100) rfl) rfl

theorem gw_821 : Cond.selects "Collationer$Index" ({ cls := "Collationer$Index", name := "addFirstWeight", desc := "(I)V" } : Jvm.MethodName) ({ cls := "Collationer$Index", name := "addFirstWeight", desc := "(I)V" } : Jvm.MethodName) ∈ mGd := lk_4 (List.mem_of_getElem? (i := 101) rfl) rfl

theorem gw_822 : Cond.code ({ cls := "Collationer$Index", name := "addFirstWeight", desc := "(I)V" } : Jvm.MethodName) prog_8_method_5_code (2 : Nat) (Option.none : Option FieldType) ∈ mGd := lk_4 (List.mem_of_getElem? (i := 102) rfl) rfl

theorem gw_832 : Cond.methodLink "Collationer" (489 : Nat) ({ cls := "Collationer", name := "insertByKey", desc := "(LCollationer$Row;II)V" } : Jvm.MethodName) ∈ mGd := lk_4 (List.mem_of_getElem? (i := 112) rfl) rfl

theorem gw_834 : Cond.instanceMethod ({ cls := "Collationer", name := "insertByKey", desc := "(LCollationer$Row;II)V" } : Jvm.MethodName) ∈ mGd := lk_4 (List.mem_of_getElem? (i := 114) rfl) rfl

theorem gs_191 : Cond.selects "Collationer" ⟨"Collationer", "insertByKey", "(LCollationer$Row;II)V"⟩ ⟨"Collationer", "insertByKey", "(LCollationer$Row;II)V"⟩ ∈ mGd := lp_2 (q := (⟨"Collationer", "insertByKey", "(LCollationer$Row;II)V"⟩, 20)) (List.mem_of_getElem? (i := 11) rfl)

theorem gw_835 : Cond.code ({ cls := "Collationer", name := "insertByKey", desc := "(LCollationer$Row;II)V" } : Jvm.MethodName) prog_1_method_65_code (5 : Nat) (Option.none : Option FieldType) ∈ mGd := lk_4 (List.mem_of_getElem? (i := 115) rfl) rfl

theorem gw_849 : Cond.methodLink "Collationer" (493 : Nat) ({ cls := "Collationer", name := "putSubEntries", desc := "(ILCollationer$Row;)V" } : Jvm.MethodName) ∈ mGd := lk_4 (List.mem_of_getElem? (i := 129) rfl) rfl

theorem gw_851 : Cond.instanceMethod ({ cls := "Collationer", name := "putSubEntries", desc := "(ILCollationer$Row;)V" } : Jvm.MethodName) ∈ mGd := lk_4 (List.mem_of_getElem? (i := 131) rfl) rfl

theorem gs_190 : Cond.selects "Collationer" ⟨"Collationer", "putSubEntries", "(ILCollationer$Row;)V"⟩ ⟨"Collationer", "putSubEntries", "(ILCollationer$Row;)V"⟩ ∈ mGd := lp_2 (q := (⟨"Collationer", "putSubEntries", "(ILCollationer$Row;)V"⟩, 20)) (List.mem_of_getElem? (i := 12) rfl)

theorem gw_852 : Cond.code ({ cls := "Collationer", name := "putSubEntries", desc := "(ILCollationer$Row;)V" } : Jvm.MethodName) prog_1_method_64_code (5 : Nat) (Option.none : Option FieldType) ∈ mGd := lk_4 (List.mem_of_getElem? (i := 132) rfl) rfl

theorem gw_965 : Cond.methodLink "Collationer" (497 : Nat) ({ cls := "Collationer$Index", name := "forget", desc := "()V" } : Jvm.MethodName) ∈ mGd := lk_5 (List.mem_of_getElem? (i := 5) rfl) rfl

theorem gw_966 : Cond.instanceMethod ({ cls := "Collationer$Index", name := "forget", desc := "()V" } : Jvm.MethodName) ∈ mGd := lk_5 (List.mem_of_getElem? (i := 6) rfl) rfl

theorem gw_967 : Cond.selects "Collationer$Index" ({ cls := "Collationer$Index", name := "forget", desc := "()V" } : Jvm.MethodName) ({ cls := "Collationer$Index", name := "forget", desc := "()V" } : Jvm.MethodName) ∈ mGd := lk_5 (List.mem_of_getElem? (i := 7) rfl) rfl

theorem gw_968 : Cond.code ({ cls := "Collationer$Index", name := "forget", desc := "()V" } : Jvm.MethodName) prog_8_method_7_code (1 : Nat) (Option.none : Option FieldType) ∈ mGd := lk_5 (List.mem_of_getElem? (i := 8) rfl) rfl

theorem gw_392 : Cond.methodLink "Collationer" (500 : Nat) ({ cls := "Collationer$Entry", name := "parent", desc := "()I" } : Jvm.MethodName) ∈ mGd := lk_2 (List.mem_of_getElem? (i := 152) rfl) rfl

theorem gw_393 : Cond.instanceMethod ({ cls := "Collationer$Entry", name := "parent", desc := "()I" } : Jvm.MethodName) ∈ mGd := lk_2 (List.mem_of_getElem? (i := 153) rfl) rfl

theorem gw_394 : Cond.selects "Collationer$Entry" ({ cls := "Collationer$Entry", name := "parent", desc := "()I" } : Jvm.MethodName) ({ cls := "Collationer$Entry", name := "parent", desc := "()I" } : Jvm.MethodName) ∈ mGd := lk_2 (List.mem_of_getElem? (i := 154) rfl) rfl

theorem gw_395 : Cond.code ({ cls := "Collationer$Entry", name := "parent", desc := "()I" } : Jvm.MethodName) prog_6_method_4_code (1 : Nat) (Option.some FieldType.int) ∈ mGd := lk_2 (List.mem_of_getElem? (i := 155) rfl) rfl

theorem gw_836 : Cond.methodLink "Collationer" (503 : Nat) ({ cls := "Collationer", name := "compareRows", desc := "(LCollationer$Row;LCollationer$Row;)I" } : Jvm.MethodName) ∈ mGd := lk_4 (List.mem_of_getElem? (i := 116) rfl) rfl

theorem gw_845 : Cond.methodLink "Collationer" (507 : Nat) ({ cls := "Collationer$Row", name := "insert", desc := "(II)V" } : Jvm.MethodName) ∈ mGd := lk_4 (List.mem_of_getElem? (i := 125) rfl) rfl

theorem gw_839 : Cond.methodLink "Collationer" (510 : Nat) ({ cls := "java/lang/Math", name := "min", desc := "(II)I" } : Jvm.MethodName) ∈ mGd := lk_4 (List.mem_of_getElem? (i := 119) rfl) rfl

theorem gw_842 : Cond.methodLink "Collationer" (515 : Nat) ({ cls := "java/lang/Integer", name := "compare", desc := "(II)I" } : Jvm.MethodName) ∈ mGd := lk_4 (List.mem_of_getElem? (i := 122) rfl) rfl

theorem gw_843 : Cond.static ({ cls := "java/lang/Integer", name := "compare", desc := "(II)I" } : Jvm.MethodName) ∈ mGd := lk_4 (List.mem_of_getElem? (i := 123) rfl) rfl

theorem gw_844 : Cond.code ({ cls := "java/lang/Integer", name := "compare", desc := "(II)I" } : Jvm.MethodName) prog_18_method_40_code (2 : Nat) (Option.some FieldType.int) ∈ mGd := lk_4 (List.mem_of_getElem? (i := 124) rfl) rfl

theorem gw_697 : Cond.methodLink "Collationer" (520 : Nat) ({ cls := "Collationer$Entry", name := "formSigns", desc := "()I" } : Jvm.MethodName) ∈ mGd := lk_3 (List.mem_of_getElem? (i := 217) rfl) rfl

theorem gw_698 : Cond.instanceMethod ({ cls := "Collationer$Entry", name := "formSigns", desc := "()I" } : Jvm.MethodName) ∈ mGd := lk_3 (List.mem_of_getElem? (i := 218) rfl) rfl

theorem gw_699 : Cond.selects "Collationer$Entry" ({ cls := "Collationer$Entry", name := "formSigns", desc := "()I" } : Jvm.MethodName) ({ cls := "Collationer$Entry", name := "formSigns", desc := "()I" } : Jvm.MethodName) ∈ mGd := lk_3 (List.mem_of_getElem? (i := 219) rfl) rfl

theorem gw_700 : Cond.code ({ cls := "Collationer$Entry", name := "formSigns", desc := "()I" } : Jvm.MethodName) prog_6_method_9_code (1 : Nat) (Option.some FieldType.int) ∈ mGd := lk_3 (List.mem_of_getElem? (i := 220) rfl) rfl

theorem gw_701 : Cond.methodLink "Collationer" (523 : Nat) ({ cls := "Collationer$Row", name := "append", desc := "(LCollationer$Row;II)V" } : Jvm.MethodName) ∈ mGd := lk_3 (List.mem_of_getElem? (i := 221) rfl) rfl

theorem gw_708 : Cond.methodLink "Collationer" (526 : Nat) ({ cls := "Collationer$Entry", name := "isTurned", desc := "()Z" } : Jvm.MethodName) ∈ mGd := lk_3 (List.mem_of_getElem? (i := 228) rfl) rfl

theorem gw_709 : Cond.instanceMethod ({ cls := "Collationer$Entry", name := "isTurned", desc := "()Z" } : Jvm.MethodName) ∈ mGd := lk_3 (List.mem_of_getElem? (i := 229) rfl) rfl

theorem gw_710 : Cond.selects "Collationer$Entry" ({ cls := "Collationer$Entry", name := "isTurned", desc := "()Z" } : Jvm.MethodName) ({ cls := "Collationer$Entry", name := "isTurned", desc := "()Z" } : Jvm.MethodName) ∈ mGd := lk_3 (List.mem_of_getElem? (i := 230) rfl) rfl

theorem gw_711 : Cond.code ({ cls := "Collationer$Entry", name := "isTurned", desc := "()Z" } : Jvm.MethodName) prog_6_method_10_code (1 : Nat) (Option.some FieldType.boolean) ∈ mGd := lk_3 (List.mem_of_getElem? (i := 231) rfl) rfl

theorem gw_1292 : Cond.methodLink "Collationer" (529 : Nat) ({ cls := "Collationer$Index", name := "firstWeightOf", desc := "(I)I" } : Jvm.MethodName) ∈ mGd := lk_6 (List.mem_of_getElem? (i := 92) rfl) rfl

theorem gw_1293 : Cond.instanceMethod ({ cls := "Collationer$Index", name := "firstWeightOf", desc := "(I)I" } : Jvm.MethodName) ∈ mGd := lk_6 (List.mem_of_getElem? (i := 93) rfl) rfl

theorem gw_1294 : Cond.selects "Collationer$Index" ({ cls := "Collationer$Index", name := "firstWeightOf", desc := "(I)I" } : Jvm.MethodName) ({ cls := "Collationer$Index", name := "firstWeightOf", desc := "(I)I" } : Jvm.MethodName) ∈ mGd := lk_6 (List.mem_of_getElem? (i := 94) rfl) rfl

theorem gw_1295 : Cond.code ({ cls := "Collationer$Index", name := "firstWeightOf", desc := "(I)I" } : Jvm.MethodName) prog_8_method_6_code (2 : Nat) (Option.some FieldType.int) ∈ mGd := lk_6 (List.mem_of_getElem? (i := 95) rfl) rfl

theorem gw_1297 : Cond.methodLink "Collationer" (532 : Nat) ({ cls := "Collationer", name := "headingFor", desc := "(LCollationer$Tailoring;I)I" } : Jvm.MethodName) ∈ mGd := lk_6 (List.mem_of_getElem? (i := 97) rfl) rfl

theorem gw_1299 : Cond.instanceMethod ({ cls := "Collationer", name := "headingFor", desc := "(LCollationer$Tailoring;I)I" } : Jvm.MethodName) ∈ mGd := lk_6 (List.mem_of_getElem? (i := 99) rfl) rfl

theorem gs_195 : Cond.selects "Collationer" ⟨"Collationer", "headingFor", "(LCollationer$Tailoring;I)I"⟩ ⟨"Collationer", "headingFor", "(LCollationer$Tailoring;I)I"⟩ ∈ mGd := lp_3 (q := (⟨"Collationer", "headingFor", "(LCollationer$Tailoring;I)I"⟩, 20)) (List.mem_of_getElem? (i := 7) rfl)

theorem gw_1300 : Cond.code ({ cls := "Collationer", name := "headingFor", desc := "(LCollationer$Tailoring;I)I" } : Jvm.MethodName) prog_1_method_69_code (7 : Nat) (Option.some FieldType.int) ∈ mGd := lk_6 (List.mem_of_getElem? (i := 100) rfl) rfl

theorem gw_1303 : Cond.methodLink "Collationer" (536 : Nat) ({ cls := "Collationer", name := "firstLetter", desc := "(LCollationer$Row;)I" } : Jvm.MethodName) ∈ mGd := lk_6 (List.mem_of_getElem? (i := 103) rfl) rfl

theorem gw_1304 : Cond.static ({ cls := "Collationer", name := "firstLetter", desc := "(LCollationer$Row;)I" } : Jvm.MethodName) ∈ mGd := lk_6 (List.mem_of_getElem? (i := 104) rfl) rfl

theorem gw_1305 : Cond.code ({ cls := "Collationer", name := "firstLetter", desc := "(LCollationer$Row;)I" } : Jvm.MethodName) prog_1_method_70_code (2 : Nat) (Option.some FieldType.int) ∈ mGd := lk_6 (List.mem_of_getElem? (i := 105) rfl) rfl

theorem gw_1307 : Cond.methodLink "Collationer" (539 : Nat) ({ cls := "Collationer", name := "scriptOf", desc := "(I)I" } : Jvm.MethodName) ∈ mGd := lk_6 (List.mem_of_getElem? (i := 107) rfl) rfl

theorem gw_1308 : Cond.static ({ cls := "Collationer", name := "scriptOf", desc := "(I)I" } : Jvm.MethodName) ∈ mGd := lk_6 (List.mem_of_getElem? (i := 108) rfl) rfl

theorem gw_1309 : Cond.code ({ cls := "Collationer", name := "scriptOf", desc := "(I)I" } : Jvm.MethodName) prog_1_method_57_code (1 : Nat) (Option.some FieldType.int) ∈ mGd := lk_6 (List.mem_of_getElem? (i := 109) rfl) rfl

theorem gw_1301 : Cond.methodLink "Collationer" (542 : Nat) ({ cls := "Collationer", name := "codeOfSign", desc := "(I)I" } : Jvm.MethodName) ∈ mGd := lk_6 (List.mem_of_getElem? (i := 101) rfl) rfl

theorem gw_1302 : Cond.methodLink "Collationer" (545 : Nat) ({ cls := "Collationer$Tailoring", name := "firstWeightOf", desc := "(I)I" } : Jvm.MethodName) ∈ mGd := lk_6 (List.mem_of_getElem? (i := 102) rfl) rfl

theorem gw_1306 : Cond.methodLink "Collationer" (546 : Nat) ({ cls := "Collationer", name := "isLetter", desc := "(I)Z" } : Jvm.MethodName) ∈ mGd := lk_6 (List.mem_of_getElem? (i := 106) rfl) rfl

theorem gw_384 : Cond.methodLink "Collationer" (549 : Nat) ({ cls := "Collationer", name := "isLocated", desc := "(I)Z" } : Jvm.MethodName) ∈ mGd := lk_2 (List.mem_of_getElem? (i := 144) rfl) rfl

theorem gw_386 : Cond.instanceMethod ({ cls := "Collationer", name := "isLocated", desc := "(I)Z" } : Jvm.MethodName) ∈ mGd := lk_2 (List.mem_of_getElem? (i := 146) rfl) rfl

theorem gs_198 : Cond.selects "Collationer" ⟨"Collationer", "isLocated", "(I)Z"⟩ ⟨"Collationer", "isLocated", "(I)Z"⟩ ∈ mGd := lp_1 (q := (⟨"Collationer", "isLocated", "(I)Z"⟩, 20)) (List.mem_of_getElem? (i := 3) rfl)

theorem gw_387 : Cond.code ({ cls := "Collationer", name := "isLocated", desc := "(I)Z" } : Jvm.MethodName) prog_1_method_72_code (4 : Nat) (Option.some FieldType.boolean) ∈ mGd := lk_2 (List.mem_of_getElem? (i := 147) rfl) rfl

theorem gw_1373 : Cond.methodLink "Collationer" (552 : Nat) ({ cls := "Collationer", name := "linesOf", desc := "(LCollationer$Entry;)I" } : Jvm.MethodName) ∈ mGd := lk_6 (List.mem_of_getElem? (i := 173) rfl) rfl

theorem gw_1375 : Cond.instanceMethod ({ cls := "Collationer", name := "linesOf", desc := "(LCollationer$Entry;)I" } : Jvm.MethodName) ∈ mGd := lk_6 (List.mem_of_getElem? (i := 175) rfl) rfl

theorem gs_202 : Cond.selects "Collationer" ⟨"Collationer", "linesOf", "(LCollationer$Entry;)I"⟩ ⟨"Collationer", "linesOf", "(LCollationer$Entry;)I"⟩ ∈ mGd := lp_3 (q := (⟨"Collationer", "linesOf", "(LCollationer$Entry;)I"⟩, 20)) (List.mem_of_getElem? (i := 11) rfl)

theorem gw_1376 : Cond.code ({ cls := "Collationer", name := "linesOf", desc := "(LCollationer$Entry;)I" } : Jvm.MethodName) prog_1_method_76_code (3 : Nat) (Option.some FieldType.int) ∈ mGd := lk_6 (List.mem_of_getElem? (i := 176) rfl) rfl

theorem gw_1392 : Cond.methodLink "Collationer" (556 : Nat) ({ cls := "Collationer", name := "needsNewColumn", desc := "(IIZZ)Z" } : Jvm.MethodName) ∈ mGd := lk_6 (List.mem_of_getElem? (i := 192) rfl) rfl

theorem gw_1394 : Cond.instanceMethod ({ cls := "Collationer", name := "needsNewColumn", desc := "(IIZZ)Z" } : Jvm.MethodName) ∈ mGd := lk_6 (List.mem_of_getElem? (i := 194) rfl) rfl

theorem gs_201 : Cond.selects "Collationer" ⟨"Collationer", "needsNewColumn", "(IIZZ)Z"⟩ ⟨"Collationer", "needsNewColumn", "(IIZZ)Z"⟩ ∈ mGd := lp_3 (q := (⟨"Collationer", "needsNewColumn", "(IIZZ)Z"⟩, 20)) (List.mem_of_getElem? (i := 12) rfl)

theorem gw_1395 : Cond.code ({ cls := "Collationer", name := "needsNewColumn", desc := "(IIZZ)Z" } : Jvm.MethodName) prog_1_method_75_code (7 : Nat) (Option.some FieldType.boolean) ∈ mGd := lk_6 (List.mem_of_getElem? (i := 195) rfl) rfl

theorem gw_1391 : Cond.methodLink "Collationer" (560 : Nat) ({ cls := "java/lang/Math", name := "max", desc := "(II)I" } : Jvm.MethodName) ∈ mGd := lk_6 (List.mem_of_getElem? (i := 191) rfl) rfl

theorem gw_1377 : Cond.methodLink "Collationer" (563 : Nat) ({ cls := "Collationer$Groups", name := "count", desc := "()I" } : Jvm.MethodName) ∈ mGd := lk_6 (List.mem_of_getElem? (i := 177) rfl) rfl

theorem gw_1378 : Cond.instanceMethod ({ cls := "Collationer$Groups", name := "count", desc := "()I" } : Jvm.MethodName) ∈ mGd := lk_6 (List.mem_of_getElem? (i := 178) rfl) rfl

theorem gw_1379 : Cond.selects "Collationer$Groups" ({ cls := "Collationer$Groups", name := "count", desc := "()I" } : Jvm.MethodName) ({ cls := "Collationer$Groups", name := "count", desc := "()I" } : Jvm.MethodName) ∈ mGd := lk_6 (List.mem_of_getElem? (i := 179) rfl) rfl

theorem gw_1380 : Cond.code ({ cls := "Collationer$Groups", name := "count", desc := "()I" } : Jvm.MethodName) prog_7_method_2_code (1 : Nat) (Option.some FieldType.int) ∈ mGd := lk_6 (List.mem_of_getElem? (i := 180) rfl) rfl

theorem gw_1381 : Cond.methodLink "Collationer" (564 : Nat) ({ cls := "Collationer$Entry", name := "alsoCount", desc := "()I" } : Jvm.MethodName) ∈ mGd := lk_6 (List.mem_of_getElem? (i := 181) rfl) rfl

theorem gw_1382 : Cond.instanceMethod ({ cls := "Collationer$Entry", name := "alsoCount", desc := "()I" } : Jvm.MethodName) ∈ mGd := lk_6 (List.mem_of_getElem? (i := 182) rfl) rfl

theorem gw_1383 : Cond.selects "Collationer$Entry" ({ cls := "Collationer$Entry", name := "alsoCount", desc := "()I" } : Jvm.MethodName) ({ cls := "Collationer$Entry", name := "alsoCount", desc := "()I" } : Jvm.MethodName) ∈ mGd := lk_6 (List.mem_of_getElem? (i := 183) rfl) rfl

theorem gw_1384 : Cond.code ({ cls := "Collationer$Entry", name := "alsoCount", desc := "()I" } : Jvm.MethodName) prog_6_method_22_code (1 : Nat) (Option.some FieldType.int) ∈ mGd := lk_6 (List.mem_of_getElem? (i := 184) rfl) rfl

theorem gw_1421 : Cond.methodLink "Collationer" (567 : Nat) ({ cls := "Collationer$Corpus", name := "isOf", desc := "(II)Z" } : Jvm.MethodName) ∈ mGd := lk_6 (List.mem_of_getElem? (i := 221) rfl) rfl

theorem gw_1422 : Cond.methodLink "Collationer" (570 : Nat) ({ cls := "Collationer", name := "insertByNeighbours", desc := "(II)V" } : Jvm.MethodName) ∈ mGd := lk_6 (List.mem_of_getElem? (i := 222) rfl) rfl

theorem gw_1424 : Cond.instanceMethod ({ cls := "Collationer", name := "insertByNeighbours", desc := "(II)V" } : Jvm.MethodName) ∈ mGd := lk_6 (List.mem_of_getElem? (i := 224) rfl) rfl

theorem gs_204 : Cond.selects "Collationer" ⟨"Collationer", "insertByNeighbours", "(II)V"⟩ ⟨"Collationer", "insertByNeighbours", "(II)V"⟩ ∈ mGd := lp_3 (q := (⟨"Collationer", "insertByNeighbours", "(II)V"⟩, 20)) (List.mem_of_getElem? (i := 14) rfl)

theorem gw_1425 : Cond.code ({ cls := "Collationer", name := "insertByNeighbours", desc := "(II)V" } : Jvm.MethodName) prog_1_method_78_code (4 : Nat) (Option.none : Option FieldType) ∈ mGd := lk_6 (List.mem_of_getElem? (i := 225) rfl) rfl

theorem gw_1426 : Cond.methodLink "Collationer" (573 : Nat) ({ cls := "Collationer", name := "compareNeighbours", desc := "(III)I" } : Jvm.MethodName) ∈ mGd := lk_6 (List.mem_of_getElem? (i := 226) rfl) rfl

theorem gw_1428 : Cond.instanceMethod ({ cls := "Collationer", name := "compareNeighbours", desc := "(III)I" } : Jvm.MethodName) ∈ mGd := lk_6 (List.mem_of_getElem? (i := 228) rfl) rfl

theorem gs_205 : Cond.selects "Collationer" ⟨"Collationer", "compareNeighbours", "(III)I"⟩ ⟨"Collationer", "compareNeighbours", "(III)I"⟩ ∈ mGd := lp_3 (q := (⟨"Collationer", "compareNeighbours", "(III)I"⟩, 20)) (List.mem_of_getElem? (i := 15) rfl)

theorem gw_1429 : Cond.code ({ cls := "Collationer", name := "compareNeighbours", desc := "(III)I" } : Jvm.MethodName) prog_1_method_79_code (5 : Nat) (Option.some FieldType.int) ∈ mGd := lk_6 (List.mem_of_getElem? (i := 229) rfl) rfl

theorem gw_1430 : Cond.methodLink "Collationer" (577 : Nat) ({ cls := "Collationer", name := "compareWords", desc := "(II)I" } : Jvm.MethodName) ∈ mGd := lk_6 (List.mem_of_getElem? (i := 230) rfl) rfl

theorem gw_1432 : Cond.instanceMethod ({ cls := "Collationer", name := "compareWords", desc := "(II)I" } : Jvm.MethodName) ∈ mGd := lk_6 (List.mem_of_getElem? (i := 232) rfl) rfl

theorem gs_206 : Cond.selects "Collationer" ⟨"Collationer", "compareWords", "(II)I"⟩ ⟨"Collationer", "compareWords", "(II)I"⟩ ∈ mGd := lp_4 (q := (⟨"Collationer", "compareWords", "(II)I"⟩, 20)) (List.mem_of_getElem? (i := 0) rfl)

theorem gw_1433 : Cond.code ({ cls := "Collationer", name := "compareWords", desc := "(II)I" } : Jvm.MethodName) prog_1_method_80_code (3 : Nat) (Option.some FieldType.int) ∈ mGd := lk_6 (List.mem_of_getElem? (i := 233) rfl) rfl

theorem gw_1439 : Cond.methodLink "CollationerModel" (1 : Nat) ({ cls := "java/lang/Object", name := "<init>", desc := "()V" } : Jvm.MethodName) ∈ mGd := lk_6 (List.mem_of_getElem? (i := 239) rfl) rfl

theorem gw_1449 : Cond.fieldLink "CollationerModel" (7 : Nat) "CollationerModel" "base" "[I" ∈ mGd := lk_7 (List.mem_of_getElem? (i := 9) rfl) rfl

theorem gw_1450 : Cond.fieldLink "CollationerModel" (13 : Nat) "CollationerModel" "mark" "[I" ∈ mGd := lk_7 (List.mem_of_getElem? (i := 10) rfl) rfl

theorem gw_1451 : Cond.fieldLink "CollationerModel" (16 : Nat) "CollationerModel" "draft" "[I" ∈ mGd := lk_7 (List.mem_of_getElem? (i := 11) rfl) rfl

theorem gw_1453 : Cond.fieldLink "CollationerModel" (19 : Nat) "CollationerModel" "anchor" "[I" ∈ mGd := lk_7 (List.mem_of_getElem? (i := 13) rfl) rfl

theorem gw_1455 : Cond.fieldLink "CollationerModel" (22 : Nat) "CollationerModel" "drawn" "[I" ∈ mGd := lk_7 (List.mem_of_getElem? (i := 15) rfl) rfl

theorem gw_1456 : Cond.fieldLink "CollationerModel" (25 : Nat) "CollationerModel" "drawnLength" "[I" ∈ mGd := lk_7 (List.mem_of_getElem? (i := 16) rfl) rfl

theorem gw_1457 : Cond.fieldLink "CollationerModel" (28 : Nat) "CollationerModel" "apart" "[I" ∈ mGd := lk_7 (List.mem_of_getElem? (i := 17) rfl) rfl

theorem gw_1458 : Cond.fieldLink "CollationerModel" (31 : Nat) "CollationerModel" "apartLength" "[I" ∈ mGd := lk_7 (List.mem_of_getElem? (i := 18) rfl) rfl

theorem gw_1460 : Cond.fieldLink "CollationerModel" (34 : Nat) "CollationerModel" "row" "[I" ∈ mGd := lk_7 (List.mem_of_getElem? (i := 20) rfl) rfl

theorem gw_1462 : Cond.fieldLink "CollationerModel" (37 : Nat) "CollationerModel" "item" "[I" ∈ mGd := lk_7 (List.mem_of_getElem? (i := 22) rfl) rfl

theorem gw_1463 : Cond.fieldLink "CollationerModel" (40 : Nat) "CollationerModel" "level" "[I" ∈ mGd := lk_7 (List.mem_of_getElem? (i := 23) rfl) rfl

theorem gw_1464 : Cond.fieldLink "CollationerModel" (43 : Nat) "CollationerModel" "items" "[I" ∈ mGd := lk_7 (List.mem_of_getElem? (i := 24) rfl) rfl

theorem gw_1465 : Cond.fieldLink "CollationerModel" (46 : Nat) "CollationerModel" "first" "[I" ∈ mGd := lk_7 (List.mem_of_getElem? (i := 25) rfl) rfl

theorem gw_1466 : Cond.fieldLink "CollationerModel" (49 : Nat) "CollationerModel" "second" "[I" ∈ mGd := lk_7 (List.mem_of_getElem? (i := 26) rfl) rfl

theorem gw_1467 : Cond.fieldLink "CollationerModel" (52 : Nat) "CollationerModel" "third" "[I" ∈ mGd := lk_7 (List.mem_of_getElem? (i := 27) rfl) rfl

theorem gw_1468 : Cond.fieldLink "CollationerModel" (55 : Nat) "CollationerModel" "several" "[I" ∈ mGd := lk_7 (List.mem_of_getElem? (i := 28) rfl) rfl

theorem gw_1469 : Cond.fieldLink "CollationerModel" (58 : Nat) "CollationerModel" "asSigns" "[I" ∈ mGd := lk_7 (List.mem_of_getElem? (i := 29) rfl) rfl

theorem gw_1470 : Cond.fieldLink "CollationerModel" (61 : Nat) "CollationerModel" "severals" "[I" ∈ mGd := lk_7 (List.mem_of_getElem? (i := 30) rfl) rfl

theorem gw_1471 : Cond.fieldLink "CollationerModel" (64 : Nat) "CollationerModel" "ruleAnchor" "[I" ∈ mGd := lk_7 (List.mem_of_getElem? (i := 31) rfl) rfl

theorem gw_1472 : Cond.fieldLink "CollationerModel" (67 : Nat) "CollationerModel" "ruleItem" "[I" ∈ mGd := lk_7 (List.mem_of_getElem? (i := 32) rfl) rfl

theorem gw_1473 : Cond.fieldLink "CollationerModel" (70 : Nat) "CollationerModel" "ruleHow" "[I" ∈ mGd := lk_7 (List.mem_of_getElem? (i := 33) rfl) rfl

theorem gw_1474 : Cond.fieldLink "CollationerModel" (73 : Nat) "CollationerModel" "rules" "[I" ∈ mGd := lk_7 (List.mem_of_getElem? (i := 34) rfl) rfl

theorem gw_1475 : Cond.fieldLink "CollationerModel" (76 : Nat) "CollationerModel" "isOn" "[Z" ∈ mGd := lk_7 (List.mem_of_getElem? (i := 35) rfl) rfl

theorem gw_1476 : Cond.fieldLink "CollationerModel" (80 : Nat) "CollationerModel" "one" "[I" ∈ mGd := lk_7 (List.mem_of_getElem? (i := 36) rfl) rfl

theorem gw_1477 : Cond.fieldLink "CollationerModel" (83 : Nat) "CollationerModel" "two" "[I" ∈ mGd := lk_7 (List.mem_of_getElem? (i := 37) rfl) rfl

theorem gw_1478 : Cond.fieldLink "CollationerModel" (86 : Nat) "CollationerModel" "three" "[I" ∈ mGd := lk_7 (List.mem_of_getElem? (i := 38) rfl) rfl

theorem gw_1479 : Cond.fieldLink "CollationerModel" (89 : Nat) "CollationerModel" "sort" "[I" ∈ mGd := lk_7 (List.mem_of_getElem? (i := 39) rfl) rfl

theorem gw_1481 : Cond.fieldLink "CollationerModel" (92 : Nat) "CollationerModel" "group" "[I" ∈ mGd := lk_7 (List.mem_of_getElem? (i := 41) rfl) rfl

theorem gw_1483 : Cond.fieldLink "CollationerModel" (95 : Nat) "CollationerModel" "weight" "[I" ∈ mGd := lk_7 (List.mem_of_getElem? (i := 43) rfl) rfl

theorem gw_1485 : Cond.fieldLink "CollationerModel" (98 : Nat) "CollationerModel" "key" "[I" ∈ mGd := lk_7 (List.mem_of_getElem? (i := 45) rfl) rfl

theorem gw_1487 : Cond.fieldLink "CollationerModel" (101 : Nat) "CollationerModel" "other" "[I" ∈ mGd := lk_7 (List.mem_of_getElem? (i := 47) rfl) rfl

theorem gw_1489 : Cond.fieldLink "CollationerModel" (104 : Nat) "CollationerModel" "isHeading" "[Z" ∈ mGd := lk_7 (List.mem_of_getElem? (i := 49) rfl) rfl

theorem gw_1490 : Cond.fieldLink "CollationerModel" (107 : Nat) "CollationerModel" "parent" "[I" ∈ mGd := lk_7 (List.mem_of_getElem? (i := 50) rfl) rfl

theorem gw_1491 : Cond.fieldLink "CollationerModel" (110 : Nat) "CollationerModel" "entryText" "[I" ∈ mGd := lk_7 (List.mem_of_getElem? (i := 51) rfl) rfl

theorem gw_1492 : Cond.fieldLink "CollationerModel" (113 : Nat) "CollationerModel" "indexes" "[I" ∈ mGd := lk_7 (List.mem_of_getElem? (i := 52) rfl) rfl

theorem gw_1493 : Cond.fieldLink "CollationerModel" (116 : Nat) "CollationerModel" "formKind" "[I" ∈ mGd := lk_7 (List.mem_of_getElem? (i := 53) rfl) rfl

theorem gw_1494 : Cond.fieldLink "CollationerModel" (119 : Nat) "CollationerModel" "formAt" "[I" ∈ mGd := lk_7 (List.mem_of_getElem? (i := 54) rfl) rfl

theorem gw_1495 : Cond.fieldLink "CollationerModel" (122 : Nat) "CollationerModel" "locator" "[I" ∈ mGd := lk_7 (List.mem_of_getElem? (i := 55) rfl) rfl

theorem gw_1496 : Cond.fieldLink "CollationerModel" (125 : Nat) "CollationerModel" "locators" "[I" ∈ mGd := lk_7 (List.mem_of_getElem? (i := 56) rfl) rfl

theorem gw_1497 : Cond.fieldLink "CollationerModel" (128 : Nat) "CollationerModel" "sees" "[I" ∈ mGd := lk_7 (List.mem_of_getElem? (i := 57) rfl) rfl

theorem gw_1498 : Cond.fieldLink "CollationerModel" (131 : Nat) "CollationerModel" "alsoSees" "[I" ∈ mGd := lk_7 (List.mem_of_getElem? (i := 58) rfl) rfl

theorem gw_1500 : Cond.fieldLink "CollationerModel" (134 : Nat) "CollationerModel" "order" "[I" ∈ mGd := lk_7 (List.mem_of_getElem? (i := 60) rfl) rfl

theorem gw_1502 : Cond.fieldLink "CollationerModel" (137 : Nat) "CollationerModel" "before" "[I" ∈ mGd := lk_7 (List.mem_of_getElem? (i := 62) rfl) rfl

theorem gw_1503 : Cond.fieldLink "CollationerModel" (140 : Nat) "CollationerModel" "beforeMany" "[I" ∈ mGd := lk_7 (List.mem_of_getElem? (i := 63) rfl) rfl

theorem gw_1504 : Cond.fieldLink "CollationerModel" (143 : Nat) "CollationerModel" "group0" "[I" ∈ mGd := lk_7 (List.mem_of_getElem? (i := 64) rfl) rfl

theorem gw_1506 : Cond.fieldLink "CollationerModel" (146 : Nat) "CollationerModel" "word" "[I" ∈ mGd := lk_7 (List.mem_of_getElem? (i := 66) rfl) rfl

theorem gw_1507 : Cond.fieldLink "CollationerModel" (149 : Nat) "CollationerModel" "readAs" "[I" ∈ mGd := lk_7 (List.mem_of_getElem? (i := 67) rfl) rfl

theorem gw_1509 : Cond.fieldLink "CollationerModel" (152 : Nat) "CollationerModel" "reading" "[I" ∈ mGd := lk_7 (List.mem_of_getElem? (i := 69) rfl) rfl

theorem gw_1510 : Cond.fieldLink "CollationerModel" (155 : Nat) "CollationerModel" "readings" "[I" ∈ mGd := lk_7 (List.mem_of_getElem? (i := 70) rfl) rfl

theorem gw_1511 : Cond.fieldLink "CollationerModel" (158 : Nat) "CollationerModel" "lines" "[I" ∈ mGd := lk_7 (List.mem_of_getElem? (i := 71) rfl) rfl

theorem gw_1513 : Cond.fieldLink "CollationerModel" (161 : Nat) "CollationerModel" "pinPage" "[I" ∈ mGd := lk_7 (List.mem_of_getElem? (i := 73) rfl) rfl

theorem gw_1514 : Cond.fieldLink "CollationerModel" (164 : Nat) "CollationerModel" "pinNext" "[I" ∈ mGd := lk_7 (List.mem_of_getElem? (i := 74) rfl) rfl

theorem gw_1516 : Cond.fieldLink "CollationerModel" (167 : Nat) "CollationerModel" "width" "I" ∈ mGd := lk_7 (List.mem_of_getElem? (i := 76) rfl) rfl

theorem gw_1517 : Cond.fieldLink "CollationerModel" (171 : Nat) "CollationerModel" "height" "I" ∈ mGd := lk_7 (List.mem_of_getElem? (i := 77) rfl) rfl

theorem gw_1440 : Cond.methodLink "CollationerModel" (174 : Nat) ({ cls := "CollationerModel", name := "appends", desc := "(III)V" } : Jvm.MethodName) ∈ mGd := lk_7 (List.mem_of_getElem? (i := 0) rfl) rfl

theorem gw_1442 : Cond.instanceMethod ({ cls := "CollationerModel", name := "appends", desc := "(III)V" } : Jvm.MethodName) ∈ mGd := lk_7 (List.mem_of_getElem? (i := 2) rfl) rfl

theorem gs_208 : Cond.selects "CollationerModel" ⟨"CollationerModel", "appends", "(III)V"⟩ ⟨"CollationerModel", "appends", "(III)V"⟩ ∈ mGd := lp_4 (q := (⟨"CollationerModel", "appends", "(III)V"⟩, 70)) (List.mem_of_getElem? (i := 1) rfl)

theorem gw_1443 : Cond.code ({ cls := "CollationerModel", name := "appends", desc := "(III)V" } : Jvm.MethodName) prog_13_method_2_code (4 : Nat) (Option.none : Option FieldType) ∈ mGd := lk_7 (List.mem_of_getElem? (i := 3) rfl) rfl

theorem gw_13 : Cond.initialized "CollationerModel" ∈ mGd := lk_1 (List.mem_of_getElem? (i := 13) rfl) rfl

theorem gw_1444 : Cond.methodLink "CollationerModel" (178 : Nat) ({ cls := "CollationerModel", name := "weighs", desc := "(I)V" } : Jvm.MethodName) ∈ mGd := lk_7 (List.mem_of_getElem? (i := 4) rfl) rfl

theorem gw_1446 : Cond.instanceMethod ({ cls := "CollationerModel", name := "weighs", desc := "(I)V" } : Jvm.MethodName) ∈ mGd := lk_7 (List.mem_of_getElem? (i := 6) rfl) rfl

theorem gs_234 : Cond.selects "CollationerModel" ⟨"CollationerModel", "weighs", "(I)V"⟩ ⟨"CollationerModel", "weighs", "(I)V"⟩ ∈ mGd := lp_4 (q := (⟨"CollationerModel", "weighs", "(I)V"⟩, 70)) (List.mem_of_getElem? (i := 2) rfl)

theorem gw_1447 : Cond.code ({ cls := "CollationerModel", name := "weighs", desc := "(I)V" } : Jvm.MethodName) prog_13_method_28_code (5 : Nat) (Option.none : Option FieldType) ∈ mGd := lk_7 (List.mem_of_getElem? (i := 7) rfl) rfl

theorem gw_1454 : Cond.fieldLink "CollationerModel" (182 : Nat) "CollationerModel" "anchored" "I" ∈ mGd := lk_7 (List.mem_of_getElem? (i := 14) rfl) rfl

theorem gw_1448 : Cond.fieldLink "CollationerModel" (185 : Nat) "CollationerModel" "thrown" "I" ∈ mGd := lk_7 (List.mem_of_getElem? (i := 8) rfl) rfl

theorem gw_1671 : Cond.methodLink "CollationerModel" (188 : Nat) ({ cls := "CollationerModel", name := "isIn", desc := "(III)Z" } : Jvm.MethodName) ∈ mGd := lk_7 (List.mem_of_getElem? (i := 231) rfl) rfl

theorem gw_1672 : Cond.static ({ cls := "CollationerModel", name := "isIn", desc := "(III)Z" } : Jvm.MethodName) ∈ mGd := lk_7 (List.mem_of_getElem? (i := 232) rfl) rfl

theorem gw_1673 : Cond.code ({ cls := "CollationerModel", name := "isIn", desc := "(III)Z" } : Jvm.MethodName) prog_13_method_5_code (3 : Nat) (Option.some FieldType.boolean) ∈ mGd := lk_7 (List.mem_of_getElem? (i := 233) rfl) rfl

theorem gw_1459 : Cond.fieldLink "CollationerModel" (192 : Nat) "CollationerModel" "texts" "I" ∈ mGd := lk_7 (List.mem_of_getElem? (i := 19) rfl) rfl

theorem gw_1667 : Cond.methodLink "CollationerModel" (195 : Nat) ({ cls := "CollationerModel", name := "isSign", desc := "(I)Z" } : Jvm.MethodName) ∈ mGd := lk_7 (List.mem_of_getElem? (i := 227) rfl) rfl

theorem gw_1669 : Cond.instanceMethod ({ cls := "CollationerModel", name := "isSign", desc := "(I)Z" } : Jvm.MethodName) ∈ mGd := lk_7 (List.mem_of_getElem? (i := 229) rfl) rfl

theorem gs_217 : Cond.selects "CollationerModel" ⟨"CollationerModel", "isSign", "(I)Z"⟩ ⟨"CollationerModel", "isSign", "(I)Z"⟩ ∈ mGd := lp_4 (q := (⟨"CollationerModel", "isSign", "(I)Z"⟩, 70)) (List.mem_of_getElem? (i := 3) rfl)

theorem gw_1670 : Cond.code ({ cls := "CollationerModel", name := "isSign", desc := "(I)Z" } : Jvm.MethodName) prog_13_method_11_code (2 : Nat) (Option.some FieldType.boolean) ∈ mGd := lk_7 (List.mem_of_getElem? (i := 230) rfl) rfl

theorem gw_1452 : Cond.fieldLink "CollationerModel" (199 : Nat) "CollationerModel" "drafted" "I" ∈ mGd := lk_7 (List.mem_of_getElem? (i := 12) rfl) rfl

theorem gw_1674 : Cond.methodLink "CollationerModel" (202 : Nat) ({ cls := "CollationerModel", name := "isFine", desc := "(I)Z" } : Jvm.MethodName) ∈ mGd := lk_7 (List.mem_of_getElem? (i := 234) rfl) rfl

theorem gw_1676 : Cond.instanceMethod ({ cls := "CollationerModel", name := "isFine", desc := "(I)Z" } : Jvm.MethodName) ∈ mGd := lk_7 (List.mem_of_getElem? (i := 236) rfl) rfl

theorem gs_210 : Cond.selects "CollationerModel" ⟨"CollationerModel", "isFine", "(I)Z"⟩ ⟨"CollationerModel", "isFine", "(I)Z"⟩ ∈ mGd := lp_4 (q := (⟨"CollationerModel", "isFine", "(I)Z"⟩, 70)) (List.mem_of_getElem? (i := 4) rfl)

theorem gw_1677 : Cond.code ({ cls := "CollationerModel", name := "isFine", desc := "(I)Z" } : Jvm.MethodName) prog_13_method_4_code (2 : Nat) (Option.some FieldType.boolean) ∈ mGd := lk_7 (List.mem_of_getElem? (i := 237) rfl) rfl

theorem gw_1682 : Cond.methodLink "CollationerModel" (205 : Nat) ({ cls := "CollationerModel", name := "isLetter", desc := "(I)Z" } : Jvm.MethodName) ∈ mGd := lk_8 (List.mem_of_getElem? (i := 2) rfl) rfl

theorem gw_1683 : Cond.static ({ cls := "CollationerModel", name := "isLetter", desc := "(I)Z" } : Jvm.MethodName) ∈ mGd := lk_8 (List.mem_of_getElem? (i := 3) rfl) rfl

theorem gw_1684 : Cond.code ({ cls := "CollationerModel", name := "isLetter", desc := "(I)Z" } : Jvm.MethodName) prog_13_method_7_code (1 : Nat) (Option.some FieldType.boolean) ∈ mGd := lk_8 (List.mem_of_getElem? (i := 4) rfl) rfl

theorem gw_1685 : Cond.methodLink "CollationerModel" (208 : Nat) ({ cls := "CollationerModel", name := "isMark", desc := "(I)Z" } : Jvm.MethodName) ∈ mGd := lk_8 (List.mem_of_getElem? (i := 5) rfl) rfl

theorem gw_1686 : Cond.static ({ cls := "CollationerModel", name := "isMark", desc := "(I)Z" } : Jvm.MethodName) ∈ mGd := lk_8 (List.mem_of_getElem? (i := 6) rfl) rfl

theorem gw_1687 : Cond.code ({ cls := "CollationerModel", name := "isMark", desc := "(I)Z" } : Jvm.MethodName) prog_13_method_6_code (1 : Nat) (Option.some FieldType.boolean) ∈ mGd := lk_8 (List.mem_of_getElem? (i := 7) rfl) rfl

theorem gw_1688 : Cond.methodLink "CollationerModel" (211 : Nat) ({ cls := "CollationerModel", name := "composedOf", desc := "(II)I" } : Jvm.MethodName) ∈ mGd := lk_8 (List.mem_of_getElem? (i := 8) rfl) rfl

theorem gw_1690 : Cond.instanceMethod ({ cls := "CollationerModel", name := "composedOf", desc := "(II)I" } : Jvm.MethodName) ∈ mGd := lk_8 (List.mem_of_getElem? (i := 10) rfl) rfl

theorem gs_221 : Cond.selects "CollationerModel" ⟨"CollationerModel", "composedOf", "(II)I"⟩ ⟨"CollationerModel", "composedOf", "(II)I"⟩ ∈ mGd := lp_4 (q := (⟨"CollationerModel", "composedOf", "(II)I"⟩, 70)) (List.mem_of_getElem? (i := 5) rfl)

theorem gw_1691 : Cond.code ({ cls := "CollationerModel", name := "composedOf", desc := "(II)I" } : Jvm.MethodName) prog_13_method_15_code (5 : Nat) (Option.some FieldType.int) ∈ mGd := lk_8 (List.mem_of_getElem? (i := 11) rfl) rfl

theorem gw_1461 : Cond.fieldLink "CollationerModel" (215 : Nat) "CollationerModel" "length" "I" ∈ mGd := lk_7 (List.mem_of_getElem? (i := 21) rfl) rfl

theorem gw_1700 : Cond.methodLink "CollationerModel" (218 : Nat) ({ cls := "CollationerModel", name := "takesApart", desc := "(I)V" } : Jvm.MethodName) ∈ mGd := lk_8 (List.mem_of_getElem? (i := 20) rfl) rfl

theorem gw_1702 : Cond.instanceMethod ({ cls := "CollationerModel", name := "takesApart", desc := "(I)V" } : Jvm.MethodName) ∈ mGd := lk_8 (List.mem_of_getElem? (i := 22) rfl) rfl

theorem gs_223 : Cond.selects "CollationerModel" ⟨"CollationerModel", "takesApart", "(I)V"⟩ ⟨"CollationerModel", "takesApart", "(I)V"⟩ ∈ mGd := lp_4 (q := (⟨"CollationerModel", "takesApart", "(I)V"⟩, 70)) (List.mem_of_getElem? (i := 7) rfl)

theorem gw_1703 : Cond.code ({ cls := "CollationerModel", name := "takesApart", desc := "(I)V" } : Jvm.MethodName) prog_13_method_17_code (3 : Nat) (Option.none : Option FieldType) ∈ mGd := lk_8 (List.mem_of_getElem? (i := 23) rfl) rfl

theorem gw_1704 : Cond.methodLink "CollationerModel" (221 : Nat) ({ cls := "CollationerModel", name := "classOf", desc := "(I)I" } : Jvm.MethodName) ∈ mGd := lk_8 (List.mem_of_getElem? (i := 24) rfl) rfl

theorem gw_1705 : Cond.static ({ cls := "CollationerModel", name := "classOf", desc := "(I)I" } : Jvm.MethodName) ∈ mGd := lk_8 (List.mem_of_getElem? (i := 25) rfl) rfl

theorem gw_1706 : Cond.code ({ cls := "CollationerModel", name := "classOf", desc := "(I)I" } : Jvm.MethodName) prog_13_method_9_code (1 : Nat) (Option.some FieldType.int) ∈ mGd := lk_8 (List.mem_of_getElem? (i := 26) rfl) rfl

theorem gw_1696 : Cond.methodLink "CollationerModel" (225 : Nat) ({ cls := "CollationerModel", name := "draftApart", desc := "()V" } : Jvm.MethodName) ∈ mGd := lk_8 (List.mem_of_getElem? (i := 16) rfl) rfl

theorem gw_1698 : Cond.instanceMethod ({ cls := "CollationerModel", name := "draftApart", desc := "()V" } : Jvm.MethodName) ∈ mGd := lk_8 (List.mem_of_getElem? (i := 18) rfl) rfl

theorem gs_224 : Cond.selects "CollationerModel" ⟨"CollationerModel", "draftApart", "()V"⟩ ⟨"CollationerModel", "draftApart", "()V"⟩ ∈ mGd := lp_4 (q := (⟨"CollationerModel", "draftApart", "()V"⟩, 70)) (List.mem_of_getElem? (i := 6) rfl)

theorem gw_1699 : Cond.code ({ cls := "CollationerModel", name := "draftApart", desc := "()V" } : Jvm.MethodName) prog_13_method_18_code (4 : Nat) (Option.none : Option FieldType) ∈ mGd := lk_8 (List.mem_of_getElem? (i := 19) rfl) rfl

theorem gw_1910 : Cond.methodLink "CollationerModel" (228 : Nat) ({ cls := "CollationerModel", name := "cutsOut", desc := "(I)V" } : Jvm.MethodName) ∈ mGd := lk_8 (List.mem_of_getElem? (i := 230) rfl) rfl

theorem gw_1912 : Cond.instanceMethod ({ cls := "CollationerModel", name := "cutsOut", desc := "(I)V" } : Jvm.MethodName) ∈ mGd := lk_8 (List.mem_of_getElem? (i := 232) rfl) rfl

theorem gs_228 : Cond.selects "CollationerModel" ⟨"CollationerModel", "cutsOut", "(I)V"⟩ ⟨"CollationerModel", "cutsOut", "(I)V"⟩ ∈ mGd := lp_6 (q := (⟨"CollationerModel", "cutsOut", "(I)V"⟩, 70)) (List.mem_of_getElem? (i := 13) rfl)

theorem gw_1913 : Cond.code ({ cls := "CollationerModel", name := "cutsOut", desc := "(I)V" } : Jvm.MethodName) prog_13_method_22_code (3 : Nat) (Option.none : Option FieldType) ∈ mGd := lk_8 (List.mem_of_getElem? (i := 233) rfl) rfl

theorem gw_1740 : Cond.methodLink "CollationerModel" (231 : Nat) ({ cls := "CollationerModel", name := "signsOf", desc := "(I)I" } : Jvm.MethodName) ∈ mGd := lk_8 (List.mem_of_getElem? (i := 60) rfl) rfl

theorem gw_1741 : Cond.static ({ cls := "CollationerModel", name := "signsOf", desc := "(I)I" } : Jvm.MethodName) ∈ mGd := lk_8 (List.mem_of_getElem? (i := 61) rfl) rfl

theorem gw_1742 : Cond.code ({ cls := "CollationerModel", name := "signsOf", desc := "(I)I" } : Jvm.MethodName) prog_13_method_24_code (1 : Nat) (Option.some FieldType.int) ∈ mGd := lk_8 (List.mem_of_getElem? (i := 62) rfl) rfl

theorem gw_1747 : Cond.methodLink "CollationerModel" (234 : Nat) ({ cls := "CollationerModel", name := "placeOf", desc := "(II)I" } : Jvm.MethodName) ∈ mGd := lk_8 (List.mem_of_getElem? (i := 67) rfl) rfl

theorem gw_1749 : Cond.instanceMethod ({ cls := "CollationerModel", name := "placeOf", desc := "(II)I" } : Jvm.MethodName) ∈ mGd := lk_8 (List.mem_of_getElem? (i := 69) rfl) rfl

theorem gs_232 : Cond.selects "CollationerModel" ⟨"CollationerModel", "placeOf", "(II)I"⟩ ⟨"CollationerModel", "placeOf", "(II)I"⟩ ∈ mGd := lp_4 (q := (⟨"CollationerModel", "placeOf", "(II)I"⟩, 70)) (List.mem_of_getElem? (i := 12) rfl)

theorem gw_1750 : Cond.code ({ cls := "CollationerModel", name := "placeOf", desc := "(II)I" } : Jvm.MethodName) prog_13_method_26_code (5 : Nat) (Option.some FieldType.int) ∈ mGd := lk_8 (List.mem_of_getElem? (i := 70) rfl) rfl

theorem gw_1809 : Cond.methodLink "CollationerModel" (237 : Nat) ({ cls := "CollationerModel", name := "severalOf", desc := "(II)I" } : Jvm.MethodName) ∈ mGd := lk_8 (List.mem_of_getElem? (i := 129) rfl) rfl

theorem gw_1811 : Cond.instanceMethod ({ cls := "CollationerModel", name := "severalOf", desc := "(II)I" } : Jvm.MethodName) ∈ mGd := lk_8 (List.mem_of_getElem? (i := 131) rfl) rfl

theorem gs_233 : Cond.selects "CollationerModel" ⟨"CollationerModel", "severalOf", "(II)I"⟩ ⟨"CollationerModel", "severalOf", "(II)I"⟩ ∈ mGd := lp_5 (q := (⟨"CollationerModel", "severalOf", "(II)I"⟩, 70)) (List.mem_of_getElem? (i := 10) rfl)

theorem gw_1812 : Cond.code ({ cls := "CollationerModel", name := "severalOf", desc := "(II)I" } : Jvm.MethodName) prog_13_method_27_code (5 : Nat) (Option.some FieldType.int) ∈ mGd := lk_8 (List.mem_of_getElem? (i := 132) rfl) rfl

theorem gw_1737 : Cond.methodLink "CollationerModel" (240 : Nat) ({ cls := "CollationerModel", name := "signAt0", desc := "(II)I" } : Jvm.MethodName) ∈ mGd := lk_8 (List.mem_of_getElem? (i := 57) rfl) rfl

theorem gw_1738 : Cond.static ({ cls := "CollationerModel", name := "signAt0", desc := "(II)I" } : Jvm.MethodName) ∈ mGd := lk_8 (List.mem_of_getElem? (i := 58) rfl) rfl

theorem gw_1739 : Cond.code ({ cls := "CollationerModel", name := "signAt0", desc := "(II)I" } : Jvm.MethodName) prog_13_method_25_code (4 : Nat) (Option.some FieldType.int) ∈ mGd := lk_8 (List.mem_of_getElem? (i := 59) rfl) rfl

theorem gw_1751 : Cond.methodLink "CollationerModel" (243 : Nat) ({ cls := "CollationerModel", name := "hasSign", desc := "(II)Z" } : Jvm.MethodName) ∈ mGd := lk_8 (List.mem_of_getElem? (i := 71) rfl) rfl

theorem gw_1752 : Cond.static ({ cls := "CollationerModel", name := "hasSign", desc := "(II)Z" } : Jvm.MethodName) ∈ mGd := lk_8 (List.mem_of_getElem? (i := 72) rfl) rfl

theorem gw_1753 : Cond.code ({ cls := "CollationerModel", name := "hasSign", desc := "(II)Z" } : Jvm.MethodName) prog_13_method_32_code (4 : Nat) (Option.some FieldType.boolean) ∈ mGd := lk_8 (List.mem_of_getElem? (i := 73) rfl) rfl

theorem gw_1734 : Cond.methodLink "CollationerModel" (247 : Nat) ({ cls := "CollationerModel", name := "isItem", desc := "(I)Z" } : Jvm.MethodName) ∈ mGd := lk_8 (List.mem_of_getElem? (i := 54) rfl) rfl

theorem gw_1735 : Cond.static ({ cls := "CollationerModel", name := "isItem", desc := "(I)Z" } : Jvm.MethodName) ∈ mGd := lk_8 (List.mem_of_getElem? (i := 55) rfl) rfl

theorem gw_1736 : Cond.code ({ cls := "CollationerModel", name := "isItem", desc := "(I)Z" } : Jvm.MethodName) prog_13_method_33_code (3 : Nat) (Option.some FieldType.boolean) ∈ mGd := lk_8 (List.mem_of_getElem? (i := 56) rfl) rfl

theorem gw_1743 : Cond.methodLink "CollationerModel" (250 : Nat) ({ cls := "CollationerModel", name := "canSeveral", desc := "(III)Z" } : Jvm.MethodName) ∈ mGd := lk_8 (List.mem_of_getElem? (i := 63) rfl) rfl

theorem gw_1745 : Cond.instanceMethod ({ cls := "CollationerModel", name := "canSeveral", desc := "(III)Z" } : Jvm.MethodName) ∈ mGd := lk_8 (List.mem_of_getElem? (i := 65) rfl) rfl

theorem gs_240 : Cond.selects "CollationerModel" ⟨"CollationerModel", "canSeveral", "(III)Z"⟩ ⟨"CollationerModel", "canSeveral", "(III)Z"⟩ ∈ mGd := lp_4 (q := (⟨"CollationerModel", "canSeveral", "(III)Z"⟩, 70)) (List.mem_of_getElem? (i := 11) rfl)

theorem gw_1746 : Cond.code ({ cls := "CollationerModel", name := "canSeveral", desc := "(III)Z" } : Jvm.MethodName) prog_13_method_34_code (7 : Nat) (Option.some FieldType.boolean) ∈ mGd := lk_8 (List.mem_of_getElem? (i := 66) rfl) rfl

theorem gw_1857 : Cond.methodLink "CollationerModel" (253 : Nat) ({ cls := "CollationerModel", name := "inserts", desc := "(IIII)V" } : Jvm.MethodName) ∈ mGd := lk_8 (List.mem_of_getElem? (i := 177) rfl) rfl

theorem gw_1859 : Cond.instanceMethod ({ cls := "CollationerModel", name := "inserts", desc := "(IIII)V" } : Jvm.MethodName) ∈ mGd := lk_8 (List.mem_of_getElem? (i := 179) rfl) rfl

theorem gs_237 : Cond.selects "CollationerModel" ⟨"CollationerModel", "inserts", "(IIII)V"⟩ ⟨"CollationerModel", "inserts", "(IIII)V"⟩ ∈ mGd := lp_6 (q := (⟨"CollationerModel", "inserts", "(IIII)V"⟩, 70)) (List.mem_of_getElem? (i := 6) rfl)

theorem gw_1860 : Cond.code ({ cls := "CollationerModel", name := "inserts", desc := "(IIII)V" } : Jvm.MethodName) prog_13_method_31_code (6 : Nat) (Option.none : Option FieldType) ∈ mGd := lk_8 (List.mem_of_getElem? (i := 180) rfl) rfl

theorem gw_1845 : Cond.methodLink "CollationerModel" (257 : Nat) ({ cls := "CollationerModel", name := "leaves", desc := "(II)V" } : Jvm.MethodName) ∈ mGd := lk_8 (List.mem_of_getElem? (i := 165) rfl) rfl

theorem gw_1847 : Cond.instanceMethod ({ cls := "CollationerModel", name := "leaves", desc := "(II)V" } : Jvm.MethodName) ∈ mGd := lk_8 (List.mem_of_getElem? (i := 167) rfl) rfl

theorem gs_235 : Cond.selects "CollationerModel" ⟨"CollationerModel", "leaves", "(II)V"⟩ ⟨"CollationerModel", "leaves", "(II)V"⟩ ∈ mGd := lp_6 (q := (⟨"CollationerModel", "leaves", "(II)V"⟩, 70)) (List.mem_of_getElem? (i := 3) rfl)

theorem gw_1848 : Cond.code ({ cls := "CollationerModel", name := "leaves", desc := "(II)V" } : Jvm.MethodName) prog_13_method_29_code (7 : Nat) (Option.none : Option FieldType) ∈ mGd := lk_8 (List.mem_of_getElem? (i := 168) rfl) rfl

theorem gw_1849 : Cond.methodLink "CollationerModel" (261 : Nat) ({ cls := "CollationerModel", name := "forgets", desc := "(II)V" } : Jvm.MethodName) ∈ mGd := lk_8 (List.mem_of_getElem? (i := 169) rfl) rfl

theorem gw_1851 : Cond.instanceMethod ({ cls := "CollationerModel", name := "forgets", desc := "(II)V" } : Jvm.MethodName) ∈ mGd := lk_8 (List.mem_of_getElem? (i := 171) rfl) rfl

theorem gs_236 : Cond.selects "CollationerModel" ⟨"CollationerModel", "forgets", "(II)V"⟩ ⟨"CollationerModel", "forgets", "(II)V"⟩ ∈ mGd := lp_6 (q := (⟨"CollationerModel", "forgets", "(II)V"⟩, 70)) (List.mem_of_getElem? (i := 4) rfl)

theorem gw_1852 : Cond.code ({ cls := "CollationerModel", name := "forgets", desc := "(II)V" } : Jvm.MethodName) prog_13_method_30_code (5 : Nat) (Option.none : Option FieldType) ∈ mGd := lk_8 (List.mem_of_getElem? (i := 172) rfl) rfl

theorem gw_1853 : Cond.methodLink "CollationerModel" (264 : Nat) ({ cls := "CollationerModel", name := "ahead", desc := "(IIII)V" } : Jvm.MethodName) ∈ mGd := lk_8 (List.mem_of_getElem? (i := 173) rfl) rfl

theorem gw_1855 : Cond.instanceMethod ({ cls := "CollationerModel", name := "ahead", desc := "(IIII)V" } : Jvm.MethodName) ∈ mGd := lk_8 (List.mem_of_getElem? (i := 175) rfl) rfl

theorem gs_243 : Cond.selects "CollationerModel" ⟨"CollationerModel", "ahead", "(IIII)V"⟩ ⟨"CollationerModel", "ahead", "(IIII)V"⟩ ∈ mGd := lp_6 (q := (⟨"CollationerModel", "ahead", "(IIII)V"⟩, 70)) (List.mem_of_getElem? (i := 5) rfl)

theorem gw_1856 : Cond.code ({ cls := "CollationerModel", name := "ahead", desc := "(IIII)V" } : Jvm.MethodName) prog_13_method_37_code (6 : Nat) (Option.none : Option FieldType) ∈ mGd := lk_8 (List.mem_of_getElem? (i := 176) rfl) rfl

theorem gw_1861 : Cond.methodLink "CollationerModel" (267 : Nat) ({ cls := "CollationerModel", name := "behind", desc := "(IIII)V" } : Jvm.MethodName) ∈ mGd := lk_8 (List.mem_of_getElem? (i := 181) rfl) rfl

theorem gw_1863 : Cond.instanceMethod ({ cls := "CollationerModel", name := "behind", desc := "(IIII)V" } : Jvm.MethodName) ∈ mGd := lk_8 (List.mem_of_getElem? (i := 183) rfl) rfl

theorem gs_242 : Cond.selects "CollationerModel" ⟨"CollationerModel", "behind", "(IIII)V"⟩ ⟨"CollationerModel", "behind", "(IIII)V"⟩ ∈ mGd := lp_6 (q := (⟨"CollationerModel", "behind", "(IIII)V"⟩, 70)) (List.mem_of_getElem? (i := 7) rfl)

theorem gw_1864 : Cond.code ({ cls := "CollationerModel", name := "behind", desc := "(IIII)V" } : Jvm.MethodName) prog_13_method_36_code (6 : Nat) (Option.none : Option FieldType) ∈ mGd := lk_8 (List.mem_of_getElem? (i := 184) rfl) rfl

theorem gw_1726 : Cond.methodLink "CollationerModel" (270 : Nat) ({ cls := "CollationerModel", name := "codeOfRow", desc := "()I" } : Jvm.MethodName) ∈ mGd := lk_8 (List.mem_of_getElem? (i := 46) rfl) rfl

theorem gw_1728 : Cond.instanceMethod ({ cls := "CollationerModel", name := "codeOfRow", desc := "()I" } : Jvm.MethodName) ∈ mGd := lk_8 (List.mem_of_getElem? (i := 48) rfl) rfl

theorem gs_245 : Cond.selects "CollationerModel" ⟨"CollationerModel", "codeOfRow", "()I"⟩ ⟨"CollationerModel", "codeOfRow", "()I"⟩ ∈ mGd := lp_4 (q := (⟨"CollationerModel", "codeOfRow", "()I"⟩, 70)) (List.mem_of_getElem? (i := 9) rfl)

theorem gw_1729 : Cond.code ({ cls := "CollationerModel", name := "codeOfRow", desc := "()I" } : Jvm.MethodName) prog_13_method_39_code (3 : Nat) (Option.some FieldType.int) ∈ mGd := lk_8 (List.mem_of_getElem? (i := 49) rfl) rfl

theorem gw_1719 : Cond.methodLink "CollationerModel" (274 : Nat) ({ cls := "CollationerModel", name := "isTailoring", desc := "(I)Z" } : Jvm.MethodName) ∈ mGd := lk_8 (List.mem_of_getElem? (i := 39) rfl) rfl

theorem gw_1720 : Cond.static ({ cls := "CollationerModel", name := "isTailoring", desc := "(I)Z" } : Jvm.MethodName) ∈ mGd := lk_8 (List.mem_of_getElem? (i := 40) rfl) rfl

theorem gw_1721 : Cond.code ({ cls := "CollationerModel", name := "isTailoring", desc := "(I)Z" } : Jvm.MethodName) prog_13_method_13_code (1 : Nat) (Option.some FieldType.boolean) ∈ mGd := lk_8 (List.mem_of_getElem? (i := 41) rfl) rfl

theorem gw_1722 : Cond.methodLink "CollationerModel" (277 : Nat) ({ cls := "CollationerModel", name := "codeOfAnchor", desc := "()I" } : Jvm.MethodName) ∈ mGd := lk_8 (List.mem_of_getElem? (i := 42) rfl) rfl

theorem gw_1724 : Cond.instanceMethod ({ cls := "CollationerModel", name := "codeOfAnchor", desc := "()I" } : Jvm.MethodName) ∈ mGd := lk_8 (List.mem_of_getElem? (i := 44) rfl) rfl

theorem gs_247 : Cond.selects "CollationerModel" ⟨"CollationerModel", "codeOfAnchor", "()I"⟩ ⟨"CollationerModel", "codeOfAnchor", "()I"⟩ ∈ mGd := lp_4 (q := (⟨"CollationerModel", "codeOfAnchor", "()I"⟩, 70)) (List.mem_of_getElem? (i := 8) rfl)

theorem gw_1725 : Cond.code ({ cls := "CollationerModel", name := "codeOfAnchor", desc := "()I" } : Jvm.MethodName) prog_13_method_41_code (2 : Nat) (Option.some FieldType.int) ∈ mGd := lk_8 (List.mem_of_getElem? (i := 45) rfl) rfl

theorem gw_1730 : Cond.methodLink "CollationerModel" (280 : Nat) ({ cls := "CollationerModel", name := "isPossible", desc := "(IIII)Z" } : Jvm.MethodName) ∈ mGd := lk_8 (List.mem_of_getElem? (i := 50) rfl) rfl

theorem gw_1732 : Cond.instanceMethod ({ cls := "CollationerModel", name := "isPossible", desc := "(IIII)Z" } : Jvm.MethodName) ∈ mGd := lk_8 (List.mem_of_getElem? (i := 52) rfl) rfl

theorem gs_241 : Cond.selects "CollationerModel" ⟨"CollationerModel", "isPossible", "(IIII)Z"⟩ ⟨"CollationerModel", "isPossible", "(IIII)Z"⟩ ∈ mGd := lp_4 (q := (⟨"CollationerModel", "isPossible", "(IIII)Z"⟩, 70)) (List.mem_of_getElem? (i := 10) rfl)

theorem gw_1733 : Cond.code ({ cls := "CollationerModel", name := "isPossible", desc := "(IIII)Z" } : Jvm.MethodName) prog_13_method_35_code (6 : Nat) (Option.some FieldType.boolean) ∈ mGd := lk_8 (List.mem_of_getElem? (i := 53) rfl) rfl

theorem gw_1754 : Cond.methodLink "CollationerModel" (284 : Nat) ({ cls := "CollationerModel", name := "remembers", desc := "(I)V" } : Jvm.MethodName) ∈ mGd := lk_8 (List.mem_of_getElem? (i := 74) rfl) rfl

theorem gw_1756 : Cond.instanceMethod ({ cls := "CollationerModel", name := "remembers", desc := "(I)V" } : Jvm.MethodName) ∈ mGd := lk_8 (List.mem_of_getElem? (i := 76) rfl) rfl

theorem gs_295 : Cond.selects "CollationerModel" ⟨"CollationerModel", "remembers", "(I)V"⟩ ⟨"CollationerModel", "remembers", "(I)V"⟩ ∈ mGd := lp_4 (q := (⟨"CollationerModel", "remembers", "(I)V"⟩, 70)) (List.mem_of_getElem? (i := 13) rfl)

theorem gw_1757 : Cond.code ({ cls := "CollationerModel", name := "remembers", desc := "(I)V" } : Jvm.MethodName) prog_13_method_89_code (3 : Nat) (Option.none : Option FieldType) ∈ mGd := lk_8 (List.mem_of_getElem? (i := 77) rfl) rfl

theorem gw_1841 : Cond.methodLink "CollationerModel" (287 : Nat) ({ cls := "CollationerModel", name := "tells", desc := "(IIII)V" } : Jvm.MethodName) ∈ mGd := lk_8 (List.mem_of_getElem? (i := 161) rfl) rfl

theorem gw_1843 : Cond.instanceMethod ({ cls := "CollationerModel", name := "tells", desc := "(IIII)V" } : Jvm.MethodName) ∈ mGd := lk_8 (List.mem_of_getElem? (i := 163) rfl) rfl

theorem gs_244 : Cond.selects "CollationerModel" ⟨"CollationerModel", "tells", "(IIII)V"⟩ ⟨"CollationerModel", "tells", "(IIII)V"⟩ ∈ mGd := lp_6 (q := (⟨"CollationerModel", "tells", "(IIII)V"⟩, 70)) (List.mem_of_getElem? (i := 2) rfl)

theorem gw_1844 : Cond.code ({ cls := "CollationerModel", name := "tells", desc := "(IIII)V" } : Jvm.MethodName) prog_13_method_38_code (5 : Nat) (Option.none : Option FieldType) ∈ mGd := lk_8 (List.mem_of_getElem? (i := 164) rfl) rfl

theorem gw_1869 : Cond.methodLink "CollationerModel" (290 : Nat) ({ cls := "CollationerModel", name := "copiesList", desc := "(II)V" } : Jvm.MethodName) ∈ mGd := lk_8 (List.mem_of_getElem? (i := 189) rfl) rfl

theorem gw_1871 : Cond.instanceMethod ({ cls := "CollationerModel", name := "copiesList", desc := "(II)V" } : Jvm.MethodName) ∈ mGd := lk_8 (List.mem_of_getElem? (i := 191) rfl) rfl

theorem gs_249 : Cond.selects "CollationerModel" ⟨"CollationerModel", "copiesList", "(II)V"⟩ ⟨"CollationerModel", "copiesList", "(II)V"⟩ ∈ mGd := lp_6 (q := (⟨"CollationerModel", "copiesList", "(II)V"⟩, 70)) (List.mem_of_getElem? (i := 8) rfl)

theorem gw_1872 : Cond.code ({ cls := "CollationerModel", name := "copiesList", desc := "(II)V" } : Jvm.MethodName) prog_13_method_43_code (4 : Nat) (Option.none : Option FieldType) ∈ mGd := lk_8 (List.mem_of_getElem? (i := 192) rfl) rfl

theorem gw_1873 : Cond.methodLink "CollationerModel" (293 : Nat) ({ cls := "CollationerModel", name := "tries", desc := "(I)Z" } : Jvm.MethodName) ∈ mGd := lk_8 (List.mem_of_getElem? (i := 193) rfl) rfl

theorem gw_1875 : Cond.instanceMethod ({ cls := "CollationerModel", name := "tries", desc := "(I)Z" } : Jvm.MethodName) ∈ mGd := lk_8 (List.mem_of_getElem? (i := 195) rfl) rfl

theorem gs_250 : Cond.selects "CollationerModel" ⟨"CollationerModel", "tries", "(I)Z"⟩ ⟨"CollationerModel", "tries", "(I)Z"⟩ ∈ mGd := lp_6 (q := (⟨"CollationerModel", "tries", "(I)Z"⟩, 70)) (List.mem_of_getElem? (i := 9) rfl)

theorem gw_1876 : Cond.code ({ cls := "CollationerModel", name := "tries", desc := "(I)Z" } : Jvm.MethodName) prog_13_method_44_code (4 : Nat) (Option.some FieldType.boolean) ∈ mGd := lk_8 (List.mem_of_getElem? (i := 196) rfl) rfl

theorem gw_1889 : Cond.constant "CollationerModel" (296 : Nat) (1000000 : Int32) ∈ mGd := lk_8 (List.mem_of_getElem? (i := 209) rfl) rfl

theorem gw_1480 : Cond.fieldLink "CollationerModel" (297 : Nat) "CollationerModel" "elements" "I" ∈ mGd := lk_7 (List.mem_of_getElem? (i := 40) rfl) rfl

theorem gw_1797 : Cond.methodLink "CollationerModel" (300 : Nat) ({ cls := "CollationerModel", name := "adds", desc := "(IIII)V" } : Jvm.MethodName) ∈ mGd := lk_8 (List.mem_of_getElem? (i := 117) rfl) rfl

theorem gw_1799 : Cond.instanceMethod ({ cls := "CollationerModel", name := "adds", desc := "(IIII)V" } : Jvm.MethodName) ∈ mGd := lk_8 (List.mem_of_getElem? (i := 119) rfl) rfl

theorem gs_255 : Cond.selects "CollationerModel" ⟨"CollationerModel", "adds", "(IIII)V"⟩ ⟨"CollationerModel", "adds", "(IIII)V"⟩ ∈ mGd := lp_5 (q := (⟨"CollationerModel", "adds", "(IIII)V"⟩, 70)) (List.mem_of_getElem? (i := 7) rfl)

theorem gw_1800 : Cond.code ({ cls := "CollationerModel", name := "adds", desc := "(IIII)V" } : Jvm.MethodName) prog_13_method_49_code (5 : Nat) (Option.none : Option FieldType) ∈ mGd := lk_8 (List.mem_of_getElem? (i := 120) rfl) rfl

theorem gw_1790 : Cond.methodLink "CollationerModel" (303 : Nat) ({ cls := "CollationerModel", name := "isDigit", desc := "(I)Z" } : Jvm.MethodName) ∈ mGd := lk_8 (List.mem_of_getElem? (i := 110) rfl) rfl

theorem gw_1791 : Cond.static ({ cls := "CollationerModel", name := "isDigit", desc := "(I)Z" } : Jvm.MethodName) ∈ mGd := lk_8 (List.mem_of_getElem? (i := 111) rfl) rfl

theorem gw_1792 : Cond.code ({ cls := "CollationerModel", name := "isDigit", desc := "(I)Z" } : Jvm.MethodName) prog_13_method_8_code (1 : Nat) (Option.some FieldType.boolean) ∈ mGd := lk_8 (List.mem_of_getElem? (i := 112) rfl) rfl

theorem gw_1482 : Cond.fieldLink "CollationerModel" (306 : Nat) "CollationerModel" "groups" "I" ∈ mGd := lk_7 (List.mem_of_getElem? (i := 42) rfl) rfl

theorem gw_1805 : Cond.methodLink "CollationerModel" (309 : Nat) ({ cls := "CollationerModel", name := "isThere", desc := "(II)Z" } : Jvm.MethodName) ∈ mGd := lk_8 (List.mem_of_getElem? (i := 125) rfl) rfl

theorem gw_1807 : Cond.instanceMethod ({ cls := "CollationerModel", name := "isThere", desc := "(II)Z" } : Jvm.MethodName) ∈ mGd := lk_8 (List.mem_of_getElem? (i := 127) rfl) rfl

theorem gs_257 : Cond.selects "CollationerModel" ⟨"CollationerModel", "isThere", "(II)Z"⟩ ⟨"CollationerModel", "isThere", "(II)Z"⟩ ∈ mGd := lp_5 (q := (⟨"CollationerModel", "isThere", "(II)Z"⟩, 70)) (List.mem_of_getElem? (i := 9) rfl)

theorem gw_1808 : Cond.code ({ cls := "CollationerModel", name := "isThere", desc := "(II)Z" } : Jvm.MethodName) prog_13_method_51_code (3 : Nat) (Option.some FieldType.boolean) ∈ mGd := lk_8 (List.mem_of_getElem? (i := 128) rfl) rfl

theorem gw_1813 : Cond.methodLink "CollationerModel" (312 : Nat) ({ cls := "CollationerModel", name := "addsItem", desc := "(III)V" } : Jvm.MethodName) ∈ mGd := lk_8 (List.mem_of_getElem? (i := 133) rfl) rfl

theorem gw_1815 : Cond.instanceMethod ({ cls := "CollationerModel", name := "addsItem", desc := "(III)V" } : Jvm.MethodName) ∈ mGd := lk_8 (List.mem_of_getElem? (i := 135) rfl) rfl

theorem gs_256 : Cond.selects "CollationerModel" ⟨"CollationerModel", "addsItem", "(III)V"⟩ ⟨"CollationerModel", "addsItem", "(III)V"⟩ ∈ mGd := lp_5 (q := (⟨"CollationerModel", "addsItem", "(III)V"⟩, 70)) (List.mem_of_getElem? (i := 11) rfl)

theorem gw_1816 : Cond.code ({ cls := "CollationerModel", name := "addsItem", desc := "(III)V" } : Jvm.MethodName) prog_13_method_50_code (5 : Nat) (Option.none : Option FieldType) ∈ mGd := lk_8 (List.mem_of_getElem? (i := 136) rfl) rfl

theorem gw_1793 : Cond.methodLink "CollationerModel" (315 : Nat) ({ cls := "CollationerModel", name := "number", desc := "(II)I" } : Jvm.MethodName) ∈ mGd := lk_8 (List.mem_of_getElem? (i := 113) rfl) rfl

theorem gw_1795 : Cond.instanceMethod ({ cls := "CollationerModel", name := "number", desc := "(II)I" } : Jvm.MethodName) ∈ mGd := lk_8 (List.mem_of_getElem? (i := 115) rfl) rfl

theorem gs_258 : Cond.selects "CollationerModel" ⟨"CollationerModel", "number", "(II)I"⟩ ⟨"CollationerModel", "number", "(II)I"⟩ ∈ mGd := lp_5 (q := (⟨"CollationerModel", "number", "(II)I"⟩, 70)) (List.mem_of_getElem? (i := 6) rfl)

theorem gw_1796 : Cond.code ({ cls := "CollationerModel", name := "number", desc := "(II)I" } : Jvm.MethodName) prog_13_method_52_code (6 : Nat) (Option.some FieldType.int) ∈ mGd := lk_8 (List.mem_of_getElem? (i := 116) rfl) rfl

theorem gw_1801 : Cond.methodLink "CollationerModel" (318 : Nat) ({ cls := "CollationerModel", name := "takes", desc := "(II)I" } : Jvm.MethodName) ∈ mGd := lk_8 (List.mem_of_getElem? (i := 121) rfl) rfl

theorem gw_1803 : Cond.instanceMethod ({ cls := "CollationerModel", name := "takes", desc := "(II)I" } : Jvm.MethodName) ∈ mGd := lk_8 (List.mem_of_getElem? (i := 123) rfl) rfl

theorem gs_259 : Cond.selects "CollationerModel" ⟨"CollationerModel", "takes", "(II)I"⟩ ⟨"CollationerModel", "takes", "(II)I"⟩ ∈ mGd := lp_5 (q := (⟨"CollationerModel", "takes", "(II)I"⟩, 70)) (List.mem_of_getElem? (i := 8) rfl)

theorem gw_1804 : Cond.code ({ cls := "CollationerModel", name := "takes", desc := "(II)I" } : Jvm.MethodName) prog_13_method_53_code (10 : Nat) (Option.some FieldType.int) ∈ mGd := lk_8 (List.mem_of_getElem? (i := 124) rfl) rfl

theorem gw_1484 : Cond.fieldLink "CollationerModel" (321 : Nat) "CollationerModel" "weights" "I" ∈ mGd := lk_7 (List.mem_of_getElem? (i := 44) rfl) rfl

theorem gw_1821 : Cond.methodLink "CollationerModel" (324 : Nat) ({ cls := "CollationerModel", name := "weighsIn", desc := "(I)V" } : Jvm.MethodName) ∈ mGd := lk_8 (List.mem_of_getElem? (i := 141) rfl) rfl

theorem gw_1823 : Cond.instanceMethod ({ cls := "CollationerModel", name := "weighsIn", desc := "(I)V" } : Jvm.MethodName) ∈ mGd := lk_8 (List.mem_of_getElem? (i := 143) rfl) rfl

theorem gs_261 : Cond.selects "CollationerModel" ⟨"CollationerModel", "weighsIn", "(I)V"⟩ ⟨"CollationerModel", "weighsIn", "(I)V"⟩ ∈ mGd := lp_5 (q := (⟨"CollationerModel", "weighsIn", "(I)V"⟩, 70)) (List.mem_of_getElem? (i := 13) rfl)

theorem gw_1824 : Cond.code ({ cls := "CollationerModel", name := "weighsIn", desc := "(I)V" } : Jvm.MethodName) prog_13_method_55_code (2 : Nat) (Option.none : Option FieldType) ∈ mGd := lk_8 (List.mem_of_getElem? (i := 144) rfl) rfl

theorem gw_1486 : Cond.fieldLink "CollationerModel" (327 : Nat) "CollationerModel" "keyLength" "I" ∈ mGd := lk_7 (List.mem_of_getElem? (i := 46) rfl) rfl

theorem gw_1829 : Cond.methodLink "CollationerModel" (330 : Nat) ({ cls := "CollationerModel", name := "puts", desc := "(I)V" } : Jvm.MethodName) ∈ mGd := lk_8 (List.mem_of_getElem? (i := 149) rfl) rfl

theorem gw_1831 : Cond.instanceMethod ({ cls := "CollationerModel", name := "puts", desc := "(I)V" } : Jvm.MethodName) ∈ mGd := lk_8 (List.mem_of_getElem? (i := 151) rfl) rfl

theorem gs_263 : Cond.selects "CollationerModel" ⟨"CollationerModel", "puts", "(I)V"⟩ ⟨"CollationerModel", "puts", "(I)V"⟩ ∈ mGd := lp_5 (q := (⟨"CollationerModel", "puts", "(I)V"⟩, 70)) (List.mem_of_getElem? (i := 15) rfl)

theorem gw_1832 : Cond.code ({ cls := "CollationerModel", name := "puts", desc := "(I)V" } : Jvm.MethodName) prog_13_method_57_code (2 : Nat) (Option.none : Option FieldType) ∈ mGd := lk_8 (List.mem_of_getElem? (i := 152) rfl) rfl

theorem gw_1786 : Cond.methodLink "CollationerModel" (333 : Nat) ({ cls := "CollationerModel", name := "findsElements", desc := "(I)V" } : Jvm.MethodName) ∈ mGd := lk_8 (List.mem_of_getElem? (i := 106) rfl) rfl

theorem gw_1788 : Cond.instanceMethod ({ cls := "CollationerModel", name := "findsElements", desc := "(I)V" } : Jvm.MethodName) ∈ mGd := lk_8 (List.mem_of_getElem? (i := 108) rfl) rfl

theorem gs_260 : Cond.selects "CollationerModel" ⟨"CollationerModel", "findsElements", "(I)V"⟩ ⟨"CollationerModel", "findsElements", "(I)V"⟩ ∈ mGd := lp_5 (q := (⟨"CollationerModel", "findsElements", "(I)V"⟩, 70)) (List.mem_of_getElem? (i := 5) rfl)

theorem gw_1789 : Cond.code ({ cls := "CollationerModel", name := "findsElements", desc := "(I)V" } : Jvm.MethodName) prog_13_method_54_code (4 : Nat) (Option.none : Option FieldType) ∈ mGd := lk_8 (List.mem_of_getElem? (i := 109) rfl) rfl

theorem gw_1817 : Cond.methodLink "CollationerModel" (336 : Nat) ({ cls := "CollationerModel", name := "levelOf", desc := "(II)V" } : Jvm.MethodName) ∈ mGd := lk_8 (List.mem_of_getElem? (i := 137) rfl) rfl

theorem gw_1819 : Cond.instanceMethod ({ cls := "CollationerModel", name := "levelOf", desc := "(II)V" } : Jvm.MethodName) ∈ mGd := lk_8 (List.mem_of_getElem? (i := 139) rfl) rfl

theorem gs_262 : Cond.selects "CollationerModel" ⟨"CollationerModel", "levelOf", "(II)V"⟩ ⟨"CollationerModel", "levelOf", "(II)V"⟩ ∈ mGd := lp_5 (q := (⟨"CollationerModel", "levelOf", "(II)V"⟩, 70)) (List.mem_of_getElem? (i := 12) rfl)

theorem gw_1820 : Cond.code ({ cls := "CollationerModel", name := "levelOf", desc := "(II)V" } : Jvm.MethodName) prog_13_method_56_code (7 : Nat) (Option.none : Option FieldType) ∈ mGd := lk_8 (List.mem_of_getElem? (i := 140) rfl) rfl

theorem gw_1825 : Cond.methodLink "CollationerModel" (339 : Nat) ({ cls := "CollationerModel", name := "putsRuns", desc := "()V" } : Jvm.MethodName) ∈ mGd := lk_8 (List.mem_of_getElem? (i := 145) rfl) rfl

theorem gw_1827 : Cond.instanceMethod ({ cls := "CollationerModel", name := "putsRuns", desc := "()V" } : Jvm.MethodName) ∈ mGd := lk_8 (List.mem_of_getElem? (i := 147) rfl) rfl

theorem gs_264 : Cond.selects "CollationerModel" ⟨"CollationerModel", "putsRuns", "()V"⟩ ⟨"CollationerModel", "putsRuns", "()V"⟩ ∈ mGd := lp_5 (q := (⟨"CollationerModel", "putsRuns", "()V"⟩, 70)) (List.mem_of_getElem? (i := 14) rfl)

theorem gw_1828 : Cond.code ({ cls := "CollationerModel", name := "putsRuns", desc := "()V" } : Jvm.MethodName) prog_13_method_58_code (4 : Nat) (Option.none : Option FieldType) ∈ mGd := lk_8 (List.mem_of_getElem? (i := 148) rfl) rfl

theorem gw_1488 : Cond.fieldLink "CollationerModel" (342 : Nat) "CollationerModel" "otherLength" "I" ∈ mGd := lk_7 (List.mem_of_getElem? (i := 48) rfl) rfl

theorem gw_1898 : Cond.methodLink "CollationerModel" (345 : Nat) ({ cls := "CollationerModel", name := "isText", desc := "(I)Z" } : Jvm.MethodName) ∈ mGd := lk_8 (List.mem_of_getElem? (i := 218) rfl) rfl

theorem gw_1900 : Cond.instanceMethod ({ cls := "CollationerModel", name := "isText", desc := "(I)Z" } : Jvm.MethodName) ∈ mGd := lk_8 (List.mem_of_getElem? (i := 220) rfl) rfl

theorem gs_218 : Cond.selects "CollationerModel" ⟨"CollationerModel", "isText", "(I)Z"⟩ ⟨"CollationerModel", "isText", "(I)Z"⟩ ∈ mGd := lp_6 (q := (⟨"CollationerModel", "isText", "(I)Z"⟩, 70)) (List.mem_of_getElem? (i := 10) rfl)

theorem gw_1901 : Cond.code ({ cls := "CollationerModel", name := "isText", desc := "(I)Z" } : Jvm.MethodName) prog_13_method_12_code (2 : Nat) (Option.some FieldType.boolean) ∈ mGd := lk_8 (List.mem_of_getElem? (i := 221) rfl) rfl

theorem gw_1902 : Cond.methodLink "CollationerModel" (348 : Nat) ({ cls := "CollationerModel", name := "takesText", desc := "(I)V" } : Jvm.MethodName) ∈ mGd := lk_8 (List.mem_of_getElem? (i := 222) rfl) rfl

theorem gw_1904 : Cond.instanceMethod ({ cls := "CollationerModel", name := "takesText", desc := "(I)V" } : Jvm.MethodName) ∈ mGd := lk_8 (List.mem_of_getElem? (i := 224) rfl) rfl

theorem gs_227 : Cond.selects "CollationerModel" ⟨"CollationerModel", "takesText", "(I)V"⟩ ⟨"CollationerModel", "takesText", "(I)V"⟩ ∈ mGd := lp_6 (q := (⟨"CollationerModel", "takesText", "(I)V"⟩, 70)) (List.mem_of_getElem? (i := 11) rfl)

theorem gw_1905 : Cond.code ({ cls := "CollationerModel", name := "takesText", desc := "(I)V" } : Jvm.MethodName) prog_13_method_21_code (3 : Nat) (Option.none : Option FieldType) ∈ mGd := lk_8 (List.mem_of_getElem? (i := 225) rfl) rfl

theorem gw_1906 : Cond.methodLink "CollationerModel" (351 : Nat) ({ cls := "CollationerModel", name := "together", desc := "()V" } : Jvm.MethodName) ∈ mGd := lk_8 (List.mem_of_getElem? (i := 226) rfl) rfl

theorem gw_1908 : Cond.instanceMethod ({ cls := "CollationerModel", name := "together", desc := "()V" } : Jvm.MethodName) ∈ mGd := lk_8 (List.mem_of_getElem? (i := 228) rfl) rfl

theorem gs_229 : Cond.selects "CollationerModel" ⟨"CollationerModel", "together", "()V"⟩ ⟨"CollationerModel", "together", "()V"⟩ ∈ mGd := lp_6 (q := (⟨"CollationerModel", "together", "()V"⟩, 70)) (List.mem_of_getElem? (i := 12) rfl)

theorem gw_1909 : Cond.code ({ cls := "CollationerModel", name := "together", desc := "()V" } : Jvm.MethodName) prog_13_method_23_code (5 : Nat) (Option.none : Option FieldType) ∈ mGd := lk_8 (List.mem_of_getElem? (i := 229) rfl) rfl

theorem gw_1922 : Cond.methodLink "CollationerModel" (354 : Nat) ({ cls := "CollationerModel", name := "isStrength", desc := "(I)Z" } : Jvm.MethodName) ∈ mGd := lk_9 (List.mem_of_getElem? (i := 2) rfl) rfl

theorem gw_1923 : Cond.static ({ cls := "CollationerModel", name := "isStrength", desc := "(I)Z" } : Jvm.MethodName) ∈ mGd := lk_9 (List.mem_of_getElem? (i := 3) rfl) rfl

theorem gw_1924 : Cond.code ({ cls := "CollationerModel", name := "isStrength", desc := "(I)Z" } : Jvm.MethodName) prog_13_method_65_code (1 : Nat) (Option.some FieldType.boolean) ∈ mGd := lk_9 (List.mem_of_getElem? (i := 4) rfl) rfl

theorem gw_1782 : Cond.methodLink "CollationerModel" (357 : Nat) ({ cls := "CollationerModel", name := "keyOf", desc := "(II)V" } : Jvm.MethodName) ∈ mGd := lk_8 (List.mem_of_getElem? (i := 102) rfl) rfl

theorem gw_1784 : Cond.instanceMethod ({ cls := "CollationerModel", name := "keyOf", desc := "(II)V" } : Jvm.MethodName) ∈ mGd := lk_8 (List.mem_of_getElem? (i := 104) rfl) rfl

theorem gs_265 : Cond.selects "CollationerModel" ⟨"CollationerModel", "keyOf", "(II)V"⟩ ⟨"CollationerModel", "keyOf", "(II)V"⟩ ∈ mGd := lp_5 (q := (⟨"CollationerModel", "keyOf", "(II)V"⟩, 70)) (List.mem_of_getElem? (i := 4) rfl)

theorem gw_1785 : Cond.code ({ cls := "CollationerModel", name := "keyOf", desc := "(II)V" } : Jvm.MethodName) prog_13_method_59_code (5 : Nat) (Option.none : Option FieldType) ∈ mGd := lk_8 (List.mem_of_getElem? (i := 105) rfl) rfl

theorem gw_1833 : Cond.methodLink "CollationerModel" (360 : Nat) ({ cls := "CollationerModel", name := "keepsKey", desc := "()V" } : Jvm.MethodName) ∈ mGd := lk_8 (List.mem_of_getElem? (i := 153) rfl) rfl

theorem gw_1835 : Cond.instanceMethod ({ cls := "CollationerModel", name := "keepsKey", desc := "()V" } : Jvm.MethodName) ∈ mGd := lk_8 (List.mem_of_getElem? (i := 155) rfl) rfl

theorem gs_266 : Cond.selects "CollationerModel" ⟨"CollationerModel", "keepsKey", "()V"⟩ ⟨"CollationerModel", "keepsKey", "()V"⟩ ∈ mGd := lp_6 (q := (⟨"CollationerModel", "keepsKey", "()V"⟩, 70)) (List.mem_of_getElem? (i := 0) rfl)

theorem gw_1836 : Cond.code ({ cls := "CollationerModel", name := "keepsKey", desc := "()V" } : Jvm.MethodName) prog_13_method_60_code (2 : Nat) (Option.none : Option FieldType) ∈ mGd := lk_8 (List.mem_of_getElem? (i := 156) rfl) rfl

theorem gw_1837 : Cond.methodLink "CollationerModel" (363 : Nat) ({ cls := "CollationerModel", name := "comparesKeys", desc := "()I" } : Jvm.MethodName) ∈ mGd := lk_8 (List.mem_of_getElem? (i := 157) rfl) rfl

theorem gw_1839 : Cond.instanceMethod ({ cls := "CollationerModel", name := "comparesKeys", desc := "()I" } : Jvm.MethodName) ∈ mGd := lk_8 (List.mem_of_getElem? (i := 159) rfl) rfl

theorem gs_267 : Cond.selects "CollationerModel" ⟨"CollationerModel", "comparesKeys", "()I"⟩ ⟨"CollationerModel", "comparesKeys", "()I"⟩ ∈ mGd := lp_6 (q := (⟨"CollationerModel", "comparesKeys", "()I"⟩, 70)) (List.mem_of_getElem? (i := 1) rfl)

theorem gw_1840 : Cond.code ({ cls := "CollationerModel", name := "comparesKeys", desc := "()I" } : Jvm.MethodName) prog_13_method_61_code (2 : Nat) (Option.some FieldType.int) ∈ mGd := lk_8 (List.mem_of_getElem? (i := 160) rfl) rfl

theorem gw_1933 : Cond.methodLink "CollationerModel" (366 : Nat) ({ cls := "CollationerModel", name := "comparesTexts", desc := "(IIII)I" } : Jvm.MethodName) ∈ mGd := lk_9 (List.mem_of_getElem? (i := 13) rfl) rfl

theorem gw_1935 : Cond.instanceMethod ({ cls := "CollationerModel", name := "comparesTexts", desc := "(IIII)I" } : Jvm.MethodName) ∈ mGd := lk_9 (List.mem_of_getElem? (i := 15) rfl) rfl

theorem gs_273 : Cond.selects "CollationerModel" ⟨"CollationerModel", "comparesTexts", "(IIII)I"⟩ ⟨"CollationerModel", "comparesTexts", "(IIII)I"⟩ ∈ mGd := lp_6 (q := (⟨"CollationerModel", "comparesTexts", "(IIII)I"⟩, 70)) (List.mem_of_getElem? (i := 15) rfl)

theorem gw_1936 : Cond.code ({ cls := "CollationerModel", name := "comparesTexts", desc := "(IIII)I" } : Jvm.MethodName) prog_13_method_67_code (5 : Nat) (Option.some FieldType.int) ∈ mGd := lk_9 (List.mem_of_getElem? (i := 16) rfl) rfl

theorem gw_1929 : Cond.methodLink "CollationerModel" (370 : Nat) ({ cls := "CollationerModel", name := "compares", desc := "(IIII)I" } : Jvm.MethodName) ∈ mGd := lk_9 (List.mem_of_getElem? (i := 9) rfl) rfl

theorem gw_1931 : Cond.instanceMethod ({ cls := "CollationerModel", name := "compares", desc := "(IIII)I" } : Jvm.MethodName) ∈ mGd := lk_9 (List.mem_of_getElem? (i := 11) rfl) rfl

theorem gs_274 : Cond.selects "CollationerModel" ⟨"CollationerModel", "compares", "(IIII)I"⟩ ⟨"CollationerModel", "compares", "(IIII)I"⟩ ∈ mGd := lp_6 (q := (⟨"CollationerModel", "compares", "(IIII)I"⟩, 70)) (List.mem_of_getElem? (i := 14) rfl)

theorem gw_1932 : Cond.code ({ cls := "CollationerModel", name := "compares", desc := "(IIII)I" } : Jvm.MethodName) prog_13_method_68_code (6 : Nat) (Option.some FieldType.int) ∈ mGd := lk_9 (List.mem_of_getElem? (i := 12) rfl) rfl

theorem gw_1949 : Cond.methodLink "CollationerModel" (373 : Nat) ({ cls := "CollationerModel", name := "endsOf", desc := "(II)J" } : Jvm.MethodName) ∈ mGd := lk_9 (List.mem_of_getElem? (i := 29) rfl) rfl

theorem gw_1951 : Cond.instanceMethod ({ cls := "CollationerModel", name := "endsOf", desc := "(II)J" } : Jvm.MethodName) ∈ mGd := lk_9 (List.mem_of_getElem? (i := 31) rfl) rfl

theorem gs_277 : Cond.selects "CollationerModel" ⟨"CollationerModel", "endsOf", "(II)J"⟩ ⟨"CollationerModel", "endsOf", "(II)J"⟩ ∈ mGd := lp_7 (q := (⟨"CollationerModel", "endsOf", "(II)J"⟩, 70)) (List.mem_of_getElem? (i := 1) rfl)

theorem gw_1952 : Cond.code ({ cls := "CollationerModel", name := "endsOf", desc := "(II)J" } : Jvm.MethodName) prog_13_method_71_code (9 : Nat) (Option.some FieldType.long) ∈ mGd := lk_9 (List.mem_of_getElem? (i := 32) rfl) rfl

theorem gw_1953 : Cond.methodLink "CollationerModel" (377 : Nat) ({ cls := "CollationerModel", name := "takesPart", desc := "(III)V" } : Jvm.MethodName) ∈ mGd := lk_9 (List.mem_of_getElem? (i := 33) rfl) rfl

theorem gw_1955 : Cond.instanceMethod ({ cls := "CollationerModel", name := "takesPart", desc := "(III)V" } : Jvm.MethodName) ∈ mGd := lk_9 (List.mem_of_getElem? (i := 35) rfl) rfl

theorem gs_278 : Cond.selects "CollationerModel" ⟨"CollationerModel", "takesPart", "(III)V"⟩ ⟨"CollationerModel", "takesPart", "(III)V"⟩ ∈ mGd := lp_7 (q := (⟨"CollationerModel", "takesPart", "(III)V"⟩, 70)) (List.mem_of_getElem? (i := 2) rfl)

theorem gw_1956 : Cond.code ({ cls := "CollationerModel", name := "takesPart", desc := "(III)V" } : Jvm.MethodName) prog_13_method_72_code (5 : Nat) (Option.none : Option FieldType) ∈ mGd := lk_9 (List.mem_of_getElem? (i := 36) rfl) rfl

theorem gw_1945 : Cond.methodLink "CollationerModel" (380 : Nat) ({ cls := "CollationerModel", name := "finds", desc := "(IIIII)I" } : Jvm.MethodName) ∈ mGd := lk_9 (List.mem_of_getElem? (i := 25) rfl) rfl

theorem gw_1947 : Cond.instanceMethod ({ cls := "CollationerModel", name := "finds", desc := "(IIIII)I" } : Jvm.MethodName) ∈ mGd := lk_9 (List.mem_of_getElem? (i := 27) rfl) rfl

theorem gs_279 : Cond.selects "CollationerModel" ⟨"CollationerModel", "finds", "(IIIII)I"⟩ ⟨"CollationerModel", "finds", "(IIIII)I"⟩ ∈ mGd := lp_7 (q := (⟨"CollationerModel", "finds", "(IIIII)I"⟩, 70)) (List.mem_of_getElem? (i := 0) rfl)

theorem gw_1948 : Cond.code ({ cls := "CollationerModel", name := "finds", desc := "(IIIII)I" } : Jvm.MethodName) prog_13_method_73_code (10 : Nat) (Option.some FieldType.int) ∈ mGd := lk_9 (List.mem_of_getElem? (i := 28) rfl) rfl

theorem gw_1499 : Cond.fieldLink "CollationerModel" (384 : Nat) "CollationerModel" "entries" "I" ∈ mGd := lk_7 (List.mem_of_getElem? (i := 59) rfl) rfl

theorem gw_1965 : Cond.methodLink "CollationerModel" (387 : Nat) ({ cls := "CollationerModel", name := "isEntry", desc := "(I)Z" } : Jvm.MethodName) ∈ mGd := lk_9 (List.mem_of_getElem? (i := 45) rfl) rfl

theorem gw_1967 : Cond.instanceMethod ({ cls := "CollationerModel", name := "isEntry", desc := "(I)Z" } : Jvm.MethodName) ∈ mGd := lk_9 (List.mem_of_getElem? (i := 47) rfl) rfl

theorem gs_282 : Cond.selects "CollationerModel" ⟨"CollationerModel", "isEntry", "(I)Z"⟩ ⟨"CollationerModel", "isEntry", "(I)Z"⟩ ∈ mGd := lp_7 (q := (⟨"CollationerModel", "isEntry", "(I)Z"⟩, 70)) (List.mem_of_getElem? (i := 3) rfl)

theorem gw_1968 : Cond.code ({ cls := "CollationerModel", name := "isEntry", desc := "(I)Z" } : Jvm.MethodName) prog_13_method_76_code (2 : Nat) (Option.some FieldType.boolean) ∈ mGd := lk_9 (List.mem_of_getElem? (i := 48) rfl) rfl

theorem gw_1977 : Cond.methodLink "CollationerModel" (390 : Nat) ({ cls := "CollationerModel", name := "placeOfLocator", desc := "(II)I" } : Jvm.MethodName) ∈ mGd := lk_9 (List.mem_of_getElem? (i := 57) rfl) rfl

theorem gw_1979 : Cond.instanceMethod ({ cls := "CollationerModel", name := "placeOfLocator", desc := "(II)I" } : Jvm.MethodName) ∈ mGd := lk_9 (List.mem_of_getElem? (i := 59) rfl) rfl

theorem gs_285 : Cond.selects "CollationerModel" ⟨"CollationerModel", "placeOfLocator", "(II)I"⟩ ⟨"CollationerModel", "placeOfLocator", "(II)I"⟩ ∈ mGd := lp_7 (q := (⟨"CollationerModel", "placeOfLocator", "(II)I"⟩, 70)) (List.mem_of_getElem? (i := 4) rfl)

theorem gw_1980 : Cond.code ({ cls := "CollationerModel", name := "placeOfLocator", desc := "(II)I" } : Jvm.MethodName) prog_13_method_79_code (5 : Nat) (Option.some FieldType.int) ∈ mGd := lk_9 (List.mem_of_getElem? (i := 60) rfl) rfl

theorem gw_1778 : Cond.methodLink "CollationerModel" (393 : Nat) ({ cls := "CollationerModel", name := "takesForm", desc := "(I)V" } : Jvm.MethodName) ∈ mGd := lk_8 (List.mem_of_getElem? (i := 98) rfl) rfl

theorem gw_1780 : Cond.instanceMethod ({ cls := "CollationerModel", name := "takesForm", desc := "(I)V" } : Jvm.MethodName) ∈ mGd := lk_8 (List.mem_of_getElem? (i := 100) rfl) rfl

theorem gs_289 : Cond.selects "CollationerModel" ⟨"CollationerModel", "takesForm", "(I)V"⟩ ⟨"CollationerModel", "takesForm", "(I)V"⟩ ∈ mGd := lp_5 (q := (⟨"CollationerModel", "takesForm", "(I)V"⟩, 70)) (List.mem_of_getElem? (i := 3) rfl)

theorem gw_1781 : Cond.code ({ cls := "CollationerModel", name := "takesForm", desc := "(I)V" } : Jvm.MethodName) prog_13_method_83_code (6 : Nat) (Option.none : Option FieldType) ∈ mGd := lk_8 (List.mem_of_getElem? (i := 101) rfl) rfl

theorem gw_1770 : Cond.methodLink "CollationerModel" (396 : Nat) ({ cls := "CollationerModel", name := "mainOf", desc := "(I)I" } : Jvm.MethodName) ∈ mGd := lk_8 (List.mem_of_getElem? (i := 90) rfl) rfl

theorem gw_1772 : Cond.instanceMethod ({ cls := "CollationerModel", name := "mainOf", desc := "(I)I" } : Jvm.MethodName) ∈ mGd := lk_8 (List.mem_of_getElem? (i := 92) rfl) rfl

theorem gs_292 : Cond.selects "CollationerModel" ⟨"CollationerModel", "mainOf", "(I)I"⟩ ⟨"CollationerModel", "mainOf", "(I)I"⟩ ∈ mGd := lp_5 (q := (⟨"CollationerModel", "mainOf", "(I)I"⟩, 70)) (List.mem_of_getElem? (i := 1) rfl)

theorem gw_1773 : Cond.code ({ cls := "CollationerModel", name := "mainOf", desc := "(I)I" } : Jvm.MethodName) prog_13_method_86_code (2 : Nat) (Option.some FieldType.int) ∈ mGd := lk_8 (List.mem_of_getElem? (i := 93) rfl) rfl

theorem gw_1774 : Cond.methodLink "CollationerModel" (399 : Nat) ({ cls := "CollationerModel", name := "isAhead", desc := "(III)Z" } : Jvm.MethodName) ∈ mGd := lk_8 (List.mem_of_getElem? (i := 94) rfl) rfl

theorem gw_1776 : Cond.instanceMethod ({ cls := "CollationerModel", name := "isAhead", desc := "(III)Z" } : Jvm.MethodName) ∈ mGd := lk_8 (List.mem_of_getElem? (i := 96) rfl) rfl

theorem gs_290 : Cond.selects "CollationerModel" ⟨"CollationerModel", "isAhead", "(III)Z"⟩ ⟨"CollationerModel", "isAhead", "(III)Z"⟩ ∈ mGd := lp_5 (q := (⟨"CollationerModel", "isAhead", "(III)Z"⟩, 70)) (List.mem_of_getElem? (i := 2) rfl)

theorem gw_1777 : Cond.code ({ cls := "CollationerModel", name := "isAhead", desc := "(III)Z" } : Jvm.MethodName) prog_13_method_84_code (5 : Nat) (Option.some FieldType.boolean) ∈ mGd := lk_8 (List.mem_of_getElem? (i := 97) rfl) rfl

theorem gw_1501 : Cond.fieldLink "CollationerModel" (402 : Nat) "CollationerModel" "ordered" "I" ∈ mGd := lk_7 (List.mem_of_getElem? (i := 61) rfl) rfl

theorem gw_1762 : Cond.methodLink "CollationerModel" (405 : Nat) ({ cls := "CollationerModel", name := "isInIndex", desc := "(II)Z" } : Jvm.MethodName) ∈ mGd := lk_8 (List.mem_of_getElem? (i := 82) rfl) rfl

theorem gw_1764 : Cond.instanceMethod ({ cls := "CollationerModel", name := "isInIndex", desc := "(II)Z" } : Jvm.MethodName) ∈ mGd := lk_8 (List.mem_of_getElem? (i := 84) rfl) rfl

theorem gs_291 : Cond.selects "CollationerModel" ⟨"CollationerModel", "isInIndex", "(II)Z"⟩ ⟨"CollationerModel", "isInIndex", "(II)Z"⟩ ∈ mGd := lp_4 (q := (⟨"CollationerModel", "isInIndex", "(II)Z"⟩, 70)) (List.mem_of_getElem? (i := 15) rfl)

theorem gw_1765 : Cond.code ({ cls := "CollationerModel", name := "isInIndex", desc := "(II)Z" } : Jvm.MethodName) prog_13_method_85_code (3 : Nat) (Option.some FieldType.boolean) ∈ mGd := lk_8 (List.mem_of_getElem? (i := 85) rfl) rfl

theorem gw_1766 : Cond.methodLink "CollationerModel" (408 : Nat) ({ cls := "CollationerModel", name := "goesFirst", desc := "(III)Z" } : Jvm.MethodName) ∈ mGd := lk_8 (List.mem_of_getElem? (i := 86) rfl) rfl

theorem gw_1768 : Cond.instanceMethod ({ cls := "CollationerModel", name := "goesFirst", desc := "(III)Z" } : Jvm.MethodName) ∈ mGd := lk_8 (List.mem_of_getElem? (i := 88) rfl) rfl

theorem gs_293 : Cond.selects "CollationerModel" ⟨"CollationerModel", "goesFirst", "(III)Z"⟩ ⟨"CollationerModel", "goesFirst", "(III)Z"⟩ ∈ mGd := lp_5 (q := (⟨"CollationerModel", "goesFirst", "(III)Z"⟩, 70)) (List.mem_of_getElem? (i := 0) rfl)

theorem gw_1769 : Cond.code ({ cls := "CollationerModel", name := "goesFirst", desc := "(III)Z" } : Jvm.MethodName) prog_13_method_87_code (6 : Nat) (Option.some FieldType.boolean) ∈ mGd := lk_8 (List.mem_of_getElem? (i := 89) rfl) rfl

theorem gw_1758 : Cond.methodLink "CollationerModel" (411 : Nat) ({ cls := "CollationerModel", name := "orders", desc := "(I)V" } : Jvm.MethodName) ∈ mGd := lk_8 (List.mem_of_getElem? (i := 78) rfl) rfl

theorem gw_1760 : Cond.instanceMethod ({ cls := "CollationerModel", name := "orders", desc := "(I)V" } : Jvm.MethodName) ∈ mGd := lk_8 (List.mem_of_getElem? (i := 80) rfl) rfl

theorem gs_294 : Cond.selects "CollationerModel" ⟨"CollationerModel", "orders", "(I)V"⟩ ⟨"CollationerModel", "orders", "(I)V"⟩ ∈ mGd := lp_4 (q := (⟨"CollationerModel", "orders", "(I)V"⟩, 70)) (List.mem_of_getElem? (i := 14) rfl)

theorem gw_1761 : Cond.code ({ cls := "CollationerModel", name := "orders", desc := "(I)V" } : Jvm.MethodName) prog_13_method_88_code (4 : Nat) (Option.none : Option FieldType) ∈ mGd := lk_8 (List.mem_of_getElem? (i := 81) rfl) rfl

theorem gw_1993 : Cond.methodLink "CollationerModel" (414 : Nat) ({ cls := "CollationerModel", name := "isIndex", desc := "(I)Z" } : Jvm.MethodName) ∈ mGd := lk_9 (List.mem_of_getElem? (i := 73) rfl) rfl

theorem gw_1994 : Cond.static ({ cls := "CollationerModel", name := "isIndex", desc := "(I)Z" } : Jvm.MethodName) ∈ mGd := lk_9 (List.mem_of_getElem? (i := 74) rfl) rfl

theorem gw_1995 : Cond.code ({ cls := "CollationerModel", name := "isIndex", desc := "(I)Z" } : Jvm.MethodName) prog_13_method_90_code (1 : Nat) (Option.some FieldType.boolean) ∈ mGd := lk_9 (List.mem_of_getElem? (i := 75) rfl) rfl

theorem gw_2012 : Cond.methodLink "CollationerModel" (417 : Nat) ({ cls := "CollationerModel", name := "scriptOf", desc := "(I)I" } : Jvm.MethodName) ∈ mGd := lk_9 (List.mem_of_getElem? (i := 92) rfl) rfl

theorem gw_2013 : Cond.static ({ cls := "CollationerModel", name := "scriptOf", desc := "(I)I" } : Jvm.MethodName) ∈ mGd := lk_9 (List.mem_of_getElem? (i := 93) rfl) rfl

theorem gw_2014 : Cond.code ({ cls := "CollationerModel", name := "scriptOf", desc := "(I)I" } : Jvm.MethodName) prog_13_method_10_code (1 : Nat) (Option.some FieldType.int) ∈ mGd := lk_9 (List.mem_of_getElem? (i := 94) rfl) rfl

theorem gw_2004 : Cond.methodLink "CollationerModel" (420 : Nat) ({ cls := "CollationerModel", name := "isEntryOf", desc := "(II)Z" } : Jvm.MethodName) ∈ mGd := lk_9 (List.mem_of_getElem? (i := 84) rfl) rfl

theorem gw_2006 : Cond.instanceMethod ({ cls := "CollationerModel", name := "isEntryOf", desc := "(II)Z" } : Jvm.MethodName) ∈ mGd := lk_9 (List.mem_of_getElem? (i := 86) rfl) rfl

theorem gs_300 : Cond.selects "CollationerModel" ⟨"CollationerModel", "isEntryOf", "(II)Z"⟩ ⟨"CollationerModel", "isEntryOf", "(II)Z"⟩ ∈ mGd := lp_7 (q := (⟨"CollationerModel", "isEntryOf", "(II)Z"⟩, 70)) (List.mem_of_getElem? (i := 5) rfl)

theorem gw_2007 : Cond.code ({ cls := "CollationerModel", name := "isEntryOf", desc := "(II)Z" } : Jvm.MethodName) prog_13_method_94_code (3 : Nat) (Option.some FieldType.boolean) ∈ mGd := lk_9 (List.mem_of_getElem? (i := 87) rfl) rfl

theorem gw_2008 : Cond.methodLink "CollationerModel" (423 : Nat) ({ cls := "CollationerModel", name := "stands", desc := "(II)I" } : Jvm.MethodName) ∈ mGd := lk_9 (List.mem_of_getElem? (i := 88) rfl) rfl

theorem gw_2010 : Cond.instanceMethod ({ cls := "CollationerModel", name := "stands", desc := "(II)I" } : Jvm.MethodName) ∈ mGd := lk_9 (List.mem_of_getElem? (i := 90) rfl) rfl

theorem gs_299 : Cond.selects "CollationerModel" ⟨"CollationerModel", "stands", "(II)I"⟩ ⟨"CollationerModel", "stands", "(II)I"⟩ ∈ mGd := lp_7 (q := (⟨"CollationerModel", "stands", "(II)I"⟩, 70)) (List.mem_of_getElem? (i := 6) rfl)

theorem gw_2011 : Cond.code ({ cls := "CollationerModel", name := "stands", desc := "(II)I" } : Jvm.MethodName) prog_13_method_93_code (9 : Nat) (Option.some FieldType.int) ∈ mGd := lk_9 (List.mem_of_getElem? (i := 91) rfl) rfl

theorem gw_1505 : Cond.fieldLink "CollationerModel" (426 : Nat) "CollationerModel" "groups0" "I" ∈ mGd := lk_7 (List.mem_of_getElem? (i := 65) rfl) rfl

theorem gw_2035 : Cond.constant "CollationerModel" (429 : Nat) (3000000 : Int32) ∈ mGd := lk_9 (List.mem_of_getElem? (i := 115) rfl) rfl

theorem gw_2023 : Cond.methodLink "CollationerModel" (430 : Nat) ({ cls := "CollationerModel", name := "nextPage", desc := "(III)I" } : Jvm.MethodName) ∈ mGd := lk_9 (List.mem_of_getElem? (i := 103) rfl) rfl

theorem gw_2025 : Cond.instanceMethod ({ cls := "CollationerModel", name := "nextPage", desc := "(III)I" } : Jvm.MethodName) ∈ mGd := lk_9 (List.mem_of_getElem? (i := 105) rfl) rfl

theorem gs_302 : Cond.selects "CollationerModel" ⟨"CollationerModel", "nextPage", "(III)I"⟩ ⟨"CollationerModel", "nextPage", "(III)I"⟩ ∈ mGd := lp_7 (q := (⟨"CollationerModel", "nextPage", "(III)I"⟩, 70)) (List.mem_of_getElem? (i := 8) rfl)

theorem gw_2026 : Cond.code ({ cls := "CollationerModel", name := "nextPage", desc := "(III)I" } : Jvm.MethodName) prog_13_method_96_code (7 : Nat) (Option.some FieldType.int) ∈ mGd := lk_9 (List.mem_of_getElem? (i := 106) rfl) rfl

theorem gw_2027 : Cond.methodLink "CollationerModel" (434 : Nat) ({ cls := "CollationerModel", name := "addsGroup", desc := "(III)V" } : Jvm.MethodName) ∈ mGd := lk_9 (List.mem_of_getElem? (i := 107) rfl) rfl

theorem gw_2029 : Cond.instanceMethod ({ cls := "CollationerModel", name := "addsGroup", desc := "(III)V" } : Jvm.MethodName) ∈ mGd := lk_9 (List.mem_of_getElem? (i := 109) rfl) rfl

theorem gs_303 : Cond.selects "CollationerModel" ⟨"CollationerModel", "addsGroup", "(III)V"⟩ ⟨"CollationerModel", "addsGroup", "(III)V"⟩ ∈ mGd := lp_7 (q := (⟨"CollationerModel", "addsGroup", "(III)V"⟩, 70)) (List.mem_of_getElem? (i := 9) rfl)

theorem gw_2030 : Cond.code ({ cls := "CollationerModel", name := "addsGroup", desc := "(III)V" } : Jvm.MethodName) prog_13_method_97_code (4 : Nat) (Option.none : Option FieldType) ∈ mGd := lk_9 (List.mem_of_getElem? (i := 110) rfl) rfl

theorem gw_2031 : Cond.methodLink "CollationerModel" (437 : Nat) ({ cls := "CollationerModel", name := "joins", desc := "(I)V" } : Jvm.MethodName) ∈ mGd := lk_9 (List.mem_of_getElem? (i := 111) rfl) rfl

theorem gw_2033 : Cond.instanceMethod ({ cls := "CollationerModel", name := "joins", desc := "(I)V" } : Jvm.MethodName) ∈ mGd := lk_9 (List.mem_of_getElem? (i := 113) rfl) rfl

theorem gs_304 : Cond.selects "CollationerModel" ⟨"CollationerModel", "joins", "(I)V"⟩ ⟨"CollationerModel", "joins", "(I)V"⟩ ∈ mGd := lp_7 (q := (⟨"CollationerModel", "joins", "(I)V"⟩, 70)) (List.mem_of_getElem? (i := 10) rfl)

theorem gw_2034 : Cond.code ({ cls := "CollationerModel", name := "joins", desc := "(I)V" } : Jvm.MethodName) prog_13_method_98_code (7 : Nat) (Option.none : Option FieldType) ∈ mGd := lk_9 (List.mem_of_getElem? (i := 114) rfl) rfl

theorem gw_2019 : Cond.methodLink "CollationerModel" (440 : Nat) ({ cls := "CollationerModel", name := "findsGroups", desc := "(I)V" } : Jvm.MethodName) ∈ mGd := lk_9 (List.mem_of_getElem? (i := 99) rfl) rfl

theorem gw_2021 : Cond.instanceMethod ({ cls := "CollationerModel", name := "findsGroups", desc := "(I)V" } : Jvm.MethodName) ∈ mGd := lk_9 (List.mem_of_getElem? (i := 101) rfl) rfl

theorem gs_305 : Cond.selects "CollationerModel" ⟨"CollationerModel", "findsGroups", "(I)V"⟩ ⟨"CollationerModel", "findsGroups", "(I)V"⟩ ∈ mGd := lp_7 (q := (⟨"CollationerModel", "findsGroups", "(I)V"⟩, 70)) (List.mem_of_getElem? (i := 7) rfl)

theorem gw_2022 : Cond.code ({ cls := "CollationerModel", name := "findsGroups", desc := "(I)V" } : Jvm.MethodName) prog_13_method_99_code (8 : Nat) (Option.none : Option FieldType) ∈ mGd := lk_9 (List.mem_of_getElem? (i := 102) rfl) rfl

theorem gw_2044 : Cond.methodLink "CollationerModel" (443 : Nat) ({ cls := "CollationerModel", name := "hasLocator", desc := "(I)Z" } : Jvm.MethodName) ∈ mGd := lk_9 (List.mem_of_getElem? (i := 124) rfl) rfl

theorem gw_2046 : Cond.instanceMethod ({ cls := "CollationerModel", name := "hasLocator", desc := "(I)Z" } : Jvm.MethodName) ∈ mGd := lk_9 (List.mem_of_getElem? (i := 126) rfl) rfl

theorem gs_307 : Cond.selects "CollationerModel" ⟨"CollationerModel", "hasLocator", "(I)Z"⟩ ⟨"CollationerModel", "hasLocator", "(I)Z"⟩ ∈ mGd := lp_7 (q := (⟨"CollationerModel", "hasLocator", "(I)Z"⟩, 70)) (List.mem_of_getElem? (i := 12) rfl)

theorem gw_2047 : Cond.code ({ cls := "CollationerModel", name := "hasLocator", desc := "(I)Z" } : Jvm.MethodName) prog_13_method_101_code (4 : Nat) (Option.some FieldType.boolean) ∈ mGd := lk_9 (List.mem_of_getElem? (i := 127) rfl) rfl

theorem gw_2040 : Cond.methodLink "CollationerModel" (446 : Nat) ({ cls := "CollationerModel", name := "leadsNow", desc := "(I)I" } : Jvm.MethodName) ∈ mGd := lk_9 (List.mem_of_getElem? (i := 120) rfl) rfl

theorem gw_2042 : Cond.instanceMethod ({ cls := "CollationerModel", name := "leadsNow", desc := "(I)I" } : Jvm.MethodName) ∈ mGd := lk_9 (List.mem_of_getElem? (i := 122) rfl) rfl

theorem gs_308 : Cond.selects "CollationerModel" ⟨"CollationerModel", "leadsNow", "(I)I"⟩ ⟨"CollationerModel", "leadsNow", "(I)I"⟩ ∈ mGd := lp_7 (q := (⟨"CollationerModel", "leadsNow", "(I)I"⟩, 70)) (List.mem_of_getElem? (i := 11) rfl)

theorem gw_2043 : Cond.code ({ cls := "CollationerModel", name := "leadsNow", desc := "(I)I" } : Jvm.MethodName) prog_13_method_102_code (4 : Nat) (Option.some FieldType.int) ∈ mGd := lk_9 (List.mem_of_getElem? (i := 123) rfl) rfl

theorem gw_1508 : Cond.fieldLink "CollationerModel" (449 : Nat) "CollationerModel" "words" "I" ∈ mGd := lk_7 (List.mem_of_getElem? (i := 68) rfl) rfl

theorem gw_2060 : Cond.methodLink "CollationerModel" (452 : Nat) ({ cls := "CollationerModel", name := "isReading", desc := "(II)Z" } : Jvm.MethodName) ∈ mGd := lk_9 (List.mem_of_getElem? (i := 140) rfl) rfl

theorem gw_2062 : Cond.instanceMethod ({ cls := "CollationerModel", name := "isReading", desc := "(II)Z" } : Jvm.MethodName) ∈ mGd := lk_9 (List.mem_of_getElem? (i := 142) rfl) rfl

theorem gs_313 : Cond.selects "CollationerModel" ⟨"CollationerModel", "isReading", "(II)Z"⟩ ⟨"CollationerModel", "isReading", "(II)Z"⟩ ∈ mGd := lp_7 (q := (⟨"CollationerModel", "isReading", "(II)Z"⟩, 70)) (List.mem_of_getElem? (i := 13) rfl)

theorem gw_2063 : Cond.code ({ cls := "CollationerModel", name := "isReading", desc := "(II)Z" } : Jvm.MethodName) prog_13_method_107_code (5 : Nat) (Option.some FieldType.boolean) ∈ mGd := lk_9 (List.mem_of_getElem? (i := 143) rfl) rfl

theorem gw_2068 : Cond.methodLink "CollationerModel" (455 : Nat) ({ cls := "CollationerModel", name := "isWord", desc := "(I)Z" } : Jvm.MethodName) ∈ mGd := lk_9 (List.mem_of_getElem? (i := 148) rfl) rfl

theorem gw_2070 : Cond.instanceMethod ({ cls := "CollationerModel", name := "isWord", desc := "(I)Z" } : Jvm.MethodName) ∈ mGd := lk_9 (List.mem_of_getElem? (i := 150) rfl) rfl

theorem gs_311 : Cond.selects "CollationerModel" ⟨"CollationerModel", "isWord", "(I)Z"⟩ ⟨"CollationerModel", "isWord", "(I)Z"⟩ ∈ mGd := lp_7 (q := (⟨"CollationerModel", "isWord", "(I)Z"⟩, 70)) (List.mem_of_getElem? (i := 14) rfl)

theorem gw_2071 : Cond.code ({ cls := "CollationerModel", name := "isWord", desc := "(I)Z" } : Jvm.MethodName) prog_13_method_105_code (2 : Nat) (Option.some FieldType.boolean) ∈ mGd := lk_9 (List.mem_of_getElem? (i := 151) rfl) rfl

theorem gw_1512 : Cond.fieldLink "CollationerModel" (458 : Nat) "CollationerModel" "lined" "I" ∈ mGd := lk_7 (List.mem_of_getElem? (i := 72) rfl) rfl

theorem gw_2076 : Cond.methodLink "CollationerModel" (461 : Nat) ({ cls := "CollationerModel", name := "belongs", desc := "(II)Z" } : Jvm.MethodName) ∈ mGd := lk_9 (List.mem_of_getElem? (i := 156) rfl) rfl

theorem gw_2078 : Cond.instanceMethod ({ cls := "CollationerModel", name := "belongs", desc := "(II)Z" } : Jvm.MethodName) ∈ mGd := lk_9 (List.mem_of_getElem? (i := 158) rfl) rfl

theorem gs_316 : Cond.selects "CollationerModel" ⟨"CollationerModel", "belongs", "(II)Z"⟩ ⟨"CollationerModel", "belongs", "(II)Z"⟩ ∈ mGd := lp_7 (q := (⟨"CollationerModel", "belongs", "(II)Z"⟩, 70)) (List.mem_of_getElem? (i := 15) rfl)

theorem gw_2079 : Cond.code ({ cls := "CollationerModel", name := "belongs", desc := "(II)Z" } : Jvm.MethodName) prog_13_method_110_code (4 : Nat) (Option.some FieldType.boolean) ∈ mGd := lk_9 (List.mem_of_getElem? (i := 159) rfl) rfl

theorem gw_2080 : Cond.methodLink "CollationerModel" (464 : Nat) ({ cls := "CollationerModel", name := "goesAhead", desc := "(III)Z" } : Jvm.MethodName) ∈ mGd := lk_9 (List.mem_of_getElem? (i := 160) rfl) rfl

theorem gw_2082 : Cond.instanceMethod ({ cls := "CollationerModel", name := "goesAhead", desc := "(III)Z" } : Jvm.MethodName) ∈ mGd := lk_9 (List.mem_of_getElem? (i := 162) rfl) rfl

theorem gs_317 : Cond.selects "CollationerModel" ⟨"CollationerModel", "goesAhead", "(III)Z"⟩ ⟨"CollationerModel", "goesAhead", "(III)Z"⟩ ∈ mGd := lp_8 (q := (⟨"CollationerModel", "goesAhead", "(III)Z"⟩, 70)) (List.mem_of_getElem? (i := 0) rfl)

theorem gw_2083 : Cond.code ({ cls := "CollationerModel", name := "goesAhead", desc := "(III)Z" } : Jvm.MethodName) prog_13_method_111_code (8 : Nat) (Option.some FieldType.boolean) ∈ mGd := lk_9 (List.mem_of_getElem? (i := 163) rfl) rfl

theorem gw_1515 : Cond.fieldLink "CollationerModel" (467 : Nat) "CollationerModel" "pins" "I" ∈ mGd := lk_7 (List.mem_of_getElem? (i := 75) rfl) rfl

theorem gw_2096 : Cond.methodLink "CollationerModel" (470 : Nat) ({ cls := "CollationerModel", name := "moves", desc := "(I)I" } : Jvm.MethodName) ∈ mGd := lk_9 (List.mem_of_getElem? (i := 176) rfl) rfl

theorem gw_2098 : Cond.instanceMethod ({ cls := "CollationerModel", name := "moves", desc := "(I)I" } : Jvm.MethodName) ∈ mGd := lk_9 (List.mem_of_getElem? (i := 178) rfl) rfl

theorem gs_320 : Cond.selects "CollationerModel" ⟨"CollationerModel", "moves", "(I)I"⟩ ⟨"CollationerModel", "moves", "(I)I"⟩ ∈ mGd := lp_8 (q := (⟨"CollationerModel", "moves", "(I)I"⟩, 70)) (List.mem_of_getElem? (i := 2) rfl)

theorem gw_2099 : Cond.code ({ cls := "CollationerModel", name := "moves", desc := "(I)I" } : Jvm.MethodName) prog_13_method_114_code (4 : Nat) (Option.some FieldType.int) ∈ mGd := lk_9 (List.mem_of_getElem? (i := 179) rfl) rfl

theorem gw_2092 : Cond.methodLink "CollationerModel" (473 : Nat) ({ cls := "CollationerModel", name := "movesEntry", desc := "(I)I" } : Jvm.MethodName) ∈ mGd := lk_9 (List.mem_of_getElem? (i := 172) rfl) rfl

theorem gw_2094 : Cond.instanceMethod ({ cls := "CollationerModel", name := "movesEntry", desc := "(I)I" } : Jvm.MethodName) ∈ mGd := lk_9 (List.mem_of_getElem? (i := 174) rfl) rfl

theorem gs_321 : Cond.selects "CollationerModel" ⟨"CollationerModel", "movesEntry", "(I)I"⟩ ⟨"CollationerModel", "movesEntry", "(I)I"⟩ ∈ mGd := lp_8 (q := (⟨"CollationerModel", "movesEntry", "(I)I"⟩, 70)) (List.mem_of_getElem? (i := 1) rfl)

theorem gw_2095 : Cond.code ({ cls := "CollationerModel", name := "movesEntry", desc := "(I)I" } : Jvm.MethodName) prog_13_method_115_code (7 : Nat) (Option.some FieldType.int) ∈ mGd := lk_9 (List.mem_of_getElem? (i := 175) rfl) rfl

theorem gw_2112 : Cond.methodLink "CollationerModel" (476 : Nat) ({ cls := "CollationerModel", name := "linesOf", desc := "(I)I" } : Jvm.MethodName) ∈ mGd := lk_9 (List.mem_of_getElem? (i := 192) rfl) rfl

theorem gw_2114 : Cond.instanceMethod ({ cls := "CollationerModel", name := "linesOf", desc := "(I)I" } : Jvm.MethodName) ∈ mGd := lk_9 (List.mem_of_getElem? (i := 194) rfl) rfl

theorem gs_324 : Cond.selects "CollationerModel" ⟨"CollationerModel", "linesOf", "(I)I"⟩ ⟨"CollationerModel", "linesOf", "(I)I"⟩ ∈ mGd := lp_8 (q := (⟨"CollationerModel", "linesOf", "(I)I"⟩, 70)) (List.mem_of_getElem? (i := 4) rfl)

theorem gw_2115 : Cond.code ({ cls := "CollationerModel", name := "linesOf", desc := "(I)I" } : Jvm.MethodName) prog_13_method_118_code (4 : Nat) (Option.some FieldType.int) ∈ mGd := lk_9 (List.mem_of_getElem? (i := 195) rfl) rfl

theorem gw_2108 : Cond.methodLink "CollationerModel" (479 : Nat) ({ cls := "CollationerModel", name := "columnNow", desc := "(II)I" } : Jvm.MethodName) ∈ mGd := lk_9 (List.mem_of_getElem? (i := 188) rfl) rfl

theorem gw_2110 : Cond.instanceMethod ({ cls := "CollationerModel", name := "columnNow", desc := "(II)I" } : Jvm.MethodName) ∈ mGd := lk_9 (List.mem_of_getElem? (i := 190) rfl) rfl

theorem gs_325 : Cond.selects "CollationerModel" ⟨"CollationerModel", "columnNow", "(II)I"⟩ ⟨"CollationerModel", "columnNow", "(II)I"⟩ ∈ mGd := lp_8 (q := (⟨"CollationerModel", "columnNow", "(II)I"⟩, 70)) (List.mem_of_getElem? (i := 3) rfl)

theorem gw_2111 : Cond.code ({ cls := "CollationerModel", name := "columnNow", desc := "(II)I" } : Jvm.MethodName) prog_13_method_119_code (16 : Nat) (Option.some FieldType.int) ∈ mGd := lk_9 (List.mem_of_getElem? (i := 191) rfl) rfl

theorem gw_1388 : Cond.constant "java/lang/Integer" (265 : Nat) (1431655765 : Int32) ∈ mGd := lk_6 (List.mem_of_getElem? (i := 188) rfl) rfl

theorem gw_1389 : Cond.constant "java/lang/Integer" (266 : Nat) (858993459 : Int32) ∈ mGd := lk_6 (List.mem_of_getElem? (i := 189) rfl) rfl

theorem gw_1390 : Cond.constant "java/lang/Integer" (267 : Nat) (252645135 : Int32) ∈ mGd := lk_6 (List.mem_of_getElem? (i := 190) rfl) rfl

theorem gw_421 : Cond.methodLink "CollationerLaw" (7 : Nat) ({ cls := "Collationer", name := "sign", desc := "(I)I" } : Jvm.MethodName) ∈ mGd := lk_2 (List.mem_of_getElem? (i := 181) rfl) rfl

theorem gw_422 : Cond.instanceMethod ({ cls := "Collationer", name := "sign", desc := "(I)I" } : Jvm.MethodName) ∈ mGd := lk_2 (List.mem_of_getElem? (i := 182) rfl) rfl

theorem gw_423 : Cond.selects "Collationer" ({ cls := "Collationer", name := "sign", desc := "(I)I" } : Jvm.MethodName) ({ cls := "Collationer", name := "sign", desc := "(I)I" } : Jvm.MethodName) ∈ mGd := lk_2 (List.mem_of_getElem? (i := 183) rfl) rfl

theorem gw_424 : Cond.code ({ cls := "Collationer", name := "sign", desc := "(I)I" } : Jvm.MethodName) prog_1_method_2_code (2 : Nat) (Option.some FieldType.int) ∈ mGd := lk_2 (List.mem_of_getElem? (i := 184) rfl) rfl

theorem gw_525 : Cond.methodLink "CollationerLaw" (17 : Nat) ({ cls := "Collationer", name := "compose", desc := "(III)I" } : Jvm.MethodName) ∈ mGd := lk_3 (List.mem_of_getElem? (i := 45) rfl) rfl

theorem gw_526 : Cond.instanceMethod ({ cls := "Collationer", name := "compose", desc := "(III)I" } : Jvm.MethodName) ∈ mGd := lk_3 (List.mem_of_getElem? (i := 46) rfl) rfl

theorem gw_527 : Cond.selects "Collationer" ({ cls := "Collationer", name := "compose", desc := "(III)I" } : Jvm.MethodName) ({ cls := "Collationer", name := "compose", desc := "(III)I" } : Jvm.MethodName) ∈ mGd := lk_3 (List.mem_of_getElem? (i := 47) rfl) rfl

theorem gw_528 : Cond.code ({ cls := "Collationer", name := "compose", desc := "(III)I" } : Jvm.MethodName) prog_1_method_3_code (4 : Nat) (Option.some FieldType.int) ∈ mGd := lk_3 (List.mem_of_getElem? (i := 48) rfl) rfl

theorem gw_556 : Cond.methodLink "CollationerLaw" (21 : Nat) ({ cls := "Collationer", name := "text", desc := "()I" } : Jvm.MethodName) ∈ mGd := lk_3 (List.mem_of_getElem? (i := 76) rfl) rfl

theorem gw_557 : Cond.instanceMethod ({ cls := "Collationer", name := "text", desc := "()I" } : Jvm.MethodName) ∈ mGd := lk_3 (List.mem_of_getElem? (i := 77) rfl) rfl

theorem gw_558 : Cond.selects "Collationer" ({ cls := "Collationer", name := "text", desc := "()I" } : Jvm.MethodName) ({ cls := "Collationer", name := "text", desc := "()I" } : Jvm.MethodName) ∈ mGd := lk_3 (List.mem_of_getElem? (i := 78) rfl) rfl

theorem gw_559 : Cond.code ({ cls := "Collationer", name := "text", desc := "()I" } : Jvm.MethodName) prog_1_method_4_code (1 : Nat) (Option.some FieldType.int) ∈ mGd := lk_3 (List.mem_of_getElem? (i := 79) rfl) rfl

theorem gw_598 : Cond.methodLink "CollationerLaw" (25 : Nat) ({ cls := "Collationer", name := "anchor", desc := "()I" } : Jvm.MethodName) ∈ mGd := lk_3 (List.mem_of_getElem? (i := 118) rfl) rfl

theorem gw_599 : Cond.instanceMethod ({ cls := "Collationer", name := "anchor", desc := "()I" } : Jvm.MethodName) ∈ mGd := lk_3 (List.mem_of_getElem? (i := 119) rfl) rfl

theorem gw_600 : Cond.selects "Collationer" ({ cls := "Collationer", name := "anchor", desc := "()I" } : Jvm.MethodName) ({ cls := "Collationer", name := "anchor", desc := "()I" } : Jvm.MethodName) ∈ mGd := lk_3 (List.mem_of_getElem? (i := 120) rfl) rfl

theorem gw_601 : Cond.code ({ cls := "Collationer", name := "anchor", desc := "()I" } : Jvm.MethodName) prog_1_method_6_code (1 : Nat) (Option.some FieldType.int) ∈ mGd := lk_3 (List.mem_of_getElem? (i := 121) rfl) rfl

theorem gw_607 : Cond.methodLink "CollationerLaw" (28 : Nat) ({ cls := "Collationer", name := "rule", desc := "(II)I" } : Jvm.MethodName) ∈ mGd := lk_3 (List.mem_of_getElem? (i := 127) rfl) rfl

theorem gw_608 : Cond.instanceMethod ({ cls := "Collationer", name := "rule", desc := "(II)I" } : Jvm.MethodName) ∈ mGd := lk_3 (List.mem_of_getElem? (i := 128) rfl) rfl

theorem gw_609 : Cond.selects "Collationer" ({ cls := "Collationer", name := "rule", desc := "(II)I" } : Jvm.MethodName) ({ cls := "Collationer", name := "rule", desc := "(II)I" } : Jvm.MethodName) ∈ mGd := lk_3 (List.mem_of_getElem? (i := 129) rfl) rfl

theorem gw_610 : Cond.code ({ cls := "Collationer", name := "rule", desc := "(II)I" } : Jvm.MethodName) prog_1_method_7_code (6 : Nat) (Option.some FieldType.int) ∈ mGd := lk_3 (List.mem_of_getElem? (i := 130) rfl) rfl

theorem gw_897 : Cond.methodLink "CollationerLaw" (34 : Nat) ({ cls := "Collationer", name := "adopt", desc := "(II)I" } : Jvm.MethodName) ∈ mGd := lk_4 (List.mem_of_getElem? (i := 177) rfl) rfl

theorem gw_898 : Cond.instanceMethod ({ cls := "Collationer", name := "adopt", desc := "(II)I" } : Jvm.MethodName) ∈ mGd := lk_4 (List.mem_of_getElem? (i := 178) rfl) rfl

theorem gw_899 : Cond.selects "Collationer" ({ cls := "Collationer", name := "adopt", desc := "(II)I" } : Jvm.MethodName) ({ cls := "Collationer", name := "adopt", desc := "(II)I" } : Jvm.MethodName) ∈ mGd := lk_4 (List.mem_of_getElem? (i := 179) rfl) rfl

theorem gw_900 : Cond.code ({ cls := "Collationer", name := "adopt", desc := "(II)I" } : Jvm.MethodName) prog_1_method_8_code (3 : Nat) (Option.some FieldType.int) ∈ mGd := lk_4 (List.mem_of_getElem? (i := 180) rfl) rfl

theorem gw_917 : Cond.methodLink "CollationerLaw" (37 : Nat) ({ cls := "Collationer", name := "option", desc := "(IIZ)Z" } : Jvm.MethodName) ∈ mGd := lk_4 (List.mem_of_getElem? (i := 197) rfl) rfl

theorem gw_918 : Cond.instanceMethod ({ cls := "Collationer", name := "option", desc := "(IIZ)Z" } : Jvm.MethodName) ∈ mGd := lk_4 (List.mem_of_getElem? (i := 198) rfl) rfl

theorem gw_919 : Cond.selects "Collationer" ({ cls := "Collationer", name := "option", desc := "(IIZ)Z" } : Jvm.MethodName) ({ cls := "Collationer", name := "option", desc := "(IIZ)Z" } : Jvm.MethodName) ∈ mGd := lk_4 (List.mem_of_getElem? (i := 199) rfl) rfl

theorem gw_920 : Cond.code ({ cls := "Collationer", name := "option", desc := "(IIZ)Z" } : Jvm.MethodName) prog_1_method_9_code (5 : Nat) (Option.some FieldType.boolean) ∈ mGd := lk_4 (List.mem_of_getElem? (i := 200) rfl) rfl

theorem gw_930 : Cond.methodLink "CollationerLaw" (41 : Nat) ({ cls := "Collationer", name := "heading", desc := "(IZ)I" } : Jvm.MethodName) ∈ mGd := lk_4 (List.mem_of_getElem? (i := 210) rfl) rfl

theorem gw_931 : Cond.instanceMethod ({ cls := "Collationer", name := "heading", desc := "(IZ)I" } : Jvm.MethodName) ∈ mGd := lk_4 (List.mem_of_getElem? (i := 211) rfl) rfl

theorem gw_932 : Cond.selects "Collationer" ({ cls := "Collationer", name := "heading", desc := "(IZ)I" } : Jvm.MethodName) ({ cls := "Collationer", name := "heading", desc := "(IZ)I" } : Jvm.MethodName) ∈ mGd := lk_4 (List.mem_of_getElem? (i := 212) rfl) rfl

theorem gw_933 : Cond.code ({ cls := "Collationer", name := "heading", desc := "(IZ)I" } : Jvm.MethodName) prog_1_method_10_code (5 : Nat) (Option.some FieldType.int) ∈ mGd := lk_4 (List.mem_of_getElem? (i := 213) rfl) rfl

theorem gw_938 : Cond.methodLink "CollationerLaw" (45 : Nat) ({ cls := "Collationer", name := "entry", desc := "(III)I" } : Jvm.MethodName) ∈ mGd := lk_4 (List.mem_of_getElem? (i := 218) rfl) rfl

theorem gw_939 : Cond.instanceMethod ({ cls := "Collationer", name := "entry", desc := "(III)I" } : Jvm.MethodName) ∈ mGd := lk_4 (List.mem_of_getElem? (i := 219) rfl) rfl

theorem gw_940 : Cond.selects "Collationer" ({ cls := "Collationer", name := "entry", desc := "(III)I" } : Jvm.MethodName) ({ cls := "Collationer", name := "entry", desc := "(III)I" } : Jvm.MethodName) ∈ mGd := lk_4 (List.mem_of_getElem? (i := 220) rfl) rfl

theorem gw_941 : Cond.code ({ cls := "Collationer", name := "entry", desc := "(III)I" } : Jvm.MethodName) prog_1_method_11_code (5 : Nat) (Option.some FieldType.int) ∈ mGd := lk_4 (List.mem_of_getElem? (i := 221) rfl) rfl

theorem gw_972 : Cond.methodLink "CollationerLaw" (48 : Nat) ({ cls := "Collationer", name := "form", desc := "(III)I" } : Jvm.MethodName) ∈ mGd := lk_5 (List.mem_of_getElem? (i := 12) rfl) rfl

theorem gw_973 : Cond.instanceMethod ({ cls := "Collationer", name := "form", desc := "(III)I" } : Jvm.MethodName) ∈ mGd := lk_5 (List.mem_of_getElem? (i := 13) rfl) rfl

theorem gw_974 : Cond.selects "Collationer" ({ cls := "Collationer", name := "form", desc := "(III)I" } : Jvm.MethodName) ({ cls := "Collationer", name := "form", desc := "(III)I" } : Jvm.MethodName) ∈ mGd := lk_5 (List.mem_of_getElem? (i := 14) rfl) rfl

theorem gw_975 : Cond.code ({ cls := "Collationer", name := "form", desc := "(III)I" } : Jvm.MethodName) prog_1_method_12_code (7 : Nat) (Option.some FieldType.int) ∈ mGd := lk_5 (List.mem_of_getElem? (i := 15) rfl) rfl

theorem gw_989 : Cond.methodLink "CollationerLaw" (51 : Nat) ({ cls := "Collationer", name := "locate", desc := "(III)Z" } : Jvm.MethodName) ∈ mGd := lk_5 (List.mem_of_getElem? (i := 29) rfl) rfl

theorem gw_990 : Cond.instanceMethod ({ cls := "Collationer", name := "locate", desc := "(III)Z" } : Jvm.MethodName) ∈ mGd := lk_5 (List.mem_of_getElem? (i := 30) rfl) rfl

theorem gw_991 : Cond.selects "Collationer" ({ cls := "Collationer", name := "locate", desc := "(III)Z" } : Jvm.MethodName) ({ cls := "Collationer", name := "locate", desc := "(III)Z" } : Jvm.MethodName) ∈ mGd := lk_5 (List.mem_of_getElem? (i := 31) rfl) rfl

theorem gw_992 : Cond.code ({ cls := "Collationer", name := "locate", desc := "(III)Z" } : Jvm.MethodName) prog_1_method_13_code (5 : Nat) (Option.some FieldType.boolean) ∈ mGd := lk_5 (List.mem_of_getElem? (i := 32) rfl) rfl

theorem gw_1019 : Cond.methodLink "CollationerLaw" (55 : Nat) ({ cls := "Collationer", name := "see", desc := "(IIZ)Z" } : Jvm.MethodName) ∈ mGd := lk_5 (List.mem_of_getElem? (i := 59) rfl) rfl

theorem gw_1020 : Cond.instanceMethod ({ cls := "Collationer", name := "see", desc := "(IIZ)Z" } : Jvm.MethodName) ∈ mGd := lk_5 (List.mem_of_getElem? (i := 60) rfl) rfl

theorem gw_1021 : Cond.selects "Collationer" ({ cls := "Collationer", name := "see", desc := "(IIZ)Z" } : Jvm.MethodName) ({ cls := "Collationer", name := "see", desc := "(IIZ)Z" } : Jvm.MethodName) ∈ mGd := lk_5 (List.mem_of_getElem? (i := 61) rfl) rfl

theorem gw_1022 : Cond.code ({ cls := "Collationer", name := "see", desc := "(IIZ)Z" } : Jvm.MethodName) prog_1_method_14_code (6 : Nat) (Option.some FieldType.boolean) ∈ mGd := lk_5 (List.mem_of_getElem? (i := 62) rfl) rfl

theorem gw_1031 : Cond.methodLink "CollationerLaw" (58 : Nat) ({ cls := "Collationer", name := "word", desc := "(I)I" } : Jvm.MethodName) ∈ mGd := lk_5 (List.mem_of_getElem? (i := 71) rfl) rfl

theorem gw_1032 : Cond.instanceMethod ({ cls := "Collationer", name := "word", desc := "(I)I" } : Jvm.MethodName) ∈ mGd := lk_5 (List.mem_of_getElem? (i := 72) rfl) rfl

theorem gw_1033 : Cond.selects "Collationer" ({ cls := "Collationer", name := "word", desc := "(I)I" } : Jvm.MethodName) ({ cls := "Collationer", name := "word", desc := "(I)I" } : Jvm.MethodName) ∈ mGd := lk_5 (List.mem_of_getElem? (i := 73) rfl) rfl

theorem gw_1034 : Cond.code ({ cls := "Collationer", name := "word", desc := "(I)I" } : Jvm.MethodName) prog_1_method_15_code (2 : Nat) (Option.some FieldType.int) ∈ mGd := lk_5 (List.mem_of_getElem? (i := 74) rfl) rfl

theorem gw_1050 : Cond.methodLink "CollationerLaw" (61 : Nat) ({ cls := "Collationer", name := "reading", desc := "(II)I" } : Jvm.MethodName) ∈ mGd := lk_5 (List.mem_of_getElem? (i := 90) rfl) rfl

theorem gw_1051 : Cond.instanceMethod ({ cls := "Collationer", name := "reading", desc := "(II)I" } : Jvm.MethodName) ∈ mGd := lk_5 (List.mem_of_getElem? (i := 91) rfl) rfl

theorem gw_1052 : Cond.selects "Collationer" ({ cls := "Collationer", name := "reading", desc := "(II)I" } : Jvm.MethodName) ({ cls := "Collationer", name := "reading", desc := "(II)I" } : Jvm.MethodName) ∈ mGd := lk_5 (List.mem_of_getElem? (i := 92) rfl) rfl

theorem gw_1053 : Cond.code ({ cls := "Collationer", name := "reading", desc := "(II)I" } : Jvm.MethodName) prog_1_method_16_code (4 : Nat) (Option.some FieldType.int) ∈ mGd := lk_5 (List.mem_of_getElem? (i := 93) rfl) rfl

theorem gw_1063 : Cond.methodLink "CollationerLaw" (64 : Nat) ({ cls := "Collationer", name := "read", desc := "(II)I" } : Jvm.MethodName) ∈ mGd := lk_5 (List.mem_of_getElem? (i := 103) rfl) rfl

theorem gw_1064 : Cond.instanceMethod ({ cls := "Collationer", name := "read", desc := "(II)I" } : Jvm.MethodName) ∈ mGd := lk_5 (List.mem_of_getElem? (i := 104) rfl) rfl

theorem gw_1065 : Cond.selects "Collationer" ({ cls := "Collationer", name := "read", desc := "(II)I" } : Jvm.MethodName) ({ cls := "Collationer", name := "read", desc := "(II)I" } : Jvm.MethodName) ∈ mGd := lk_5 (List.mem_of_getElem? (i := 105) rfl) rfl

theorem gw_1066 : Cond.code ({ cls := "Collationer", name := "read", desc := "(II)I" } : Jvm.MethodName) prog_1_method_17_code (4 : Nat) (Option.some FieldType.int) ∈ mGd := lk_5 (List.mem_of_getElem? (i := 106) rfl) rfl

theorem gw_1090 : Cond.methodLink "CollationerLaw" (67 : Nat) ({ cls := "Collationer", name := "pin", desc := "(II)I" } : Jvm.MethodName) ∈ mGd := lk_5 (List.mem_of_getElem? (i := 130) rfl) rfl

theorem gw_1091 : Cond.instanceMethod ({ cls := "Collationer", name := "pin", desc := "(II)I" } : Jvm.MethodName) ∈ mGd := lk_5 (List.mem_of_getElem? (i := 131) rfl) rfl

theorem gw_1092 : Cond.selects "Collationer" ({ cls := "Collationer", name := "pin", desc := "(II)I" } : Jvm.MethodName) ({ cls := "Collationer", name := "pin", desc := "(II)I" } : Jvm.MethodName) ∈ mGd := lk_5 (List.mem_of_getElem? (i := 132) rfl) rfl

theorem gw_1093 : Cond.code ({ cls := "Collationer", name := "pin", desc := "(II)I" } : Jvm.MethodName) prog_1_method_18_code (3 : Nat) (Option.some FieldType.int) ∈ mGd := lk_5 (List.mem_of_getElem? (i := 133) rfl) rfl

theorem gw_1114 : Cond.methodLink "CollationerLaw" (70 : Nat) ({ cls := "Collationer", name := "edition", desc := "()I" } : Jvm.MethodName) ∈ mGd := lk_5 (List.mem_of_getElem? (i := 154) rfl) rfl

theorem gw_1115 : Cond.instanceMethod ({ cls := "Collationer", name := "edition", desc := "()I" } : Jvm.MethodName) ∈ mGd := lk_5 (List.mem_of_getElem? (i := 155) rfl) rfl

theorem gw_1116 : Cond.selects "Collationer" ({ cls := "Collationer", name := "edition", desc := "()I" } : Jvm.MethodName) ({ cls := "Collationer", name := "edition", desc := "()I" } : Jvm.MethodName) ∈ mGd := lk_5 (List.mem_of_getElem? (i := 156) rfl) rfl

theorem gw_1117 : Cond.code ({ cls := "Collationer", name := "edition", desc := "()I" } : Jvm.MethodName) prog_1_method_19_code (3 : Nat) (Option.some FieldType.int) ∈ mGd := lk_5 (List.mem_of_getElem? (i := 157) rfl) rfl

theorem gw_1144 : Cond.methodLink "CollationerLaw" (73 : Nat) ({ cls := "Collationer", name := "columns", desc := "(II)I" } : Jvm.MethodName) ∈ mGd := lk_5 (List.mem_of_getElem? (i := 184) rfl) rfl

theorem gw_1145 : Cond.instanceMethod ({ cls := "Collationer", name := "columns", desc := "(II)I" } : Jvm.MethodName) ∈ mGd := lk_5 (List.mem_of_getElem? (i := 185) rfl) rfl

theorem gw_1146 : Cond.selects "Collationer" ({ cls := "Collationer", name := "columns", desc := "(II)I" } : Jvm.MethodName) ({ cls := "Collationer", name := "columns", desc := "(II)I" } : Jvm.MethodName) ∈ mGd := lk_5 (List.mem_of_getElem? (i := 186) rfl) rfl

theorem gw_1147 : Cond.code ({ cls := "Collationer", name := "columns", desc := "(II)I" } : Jvm.MethodName) prog_1_method_20_code (4 : Nat) (Option.some FieldType.int) ∈ mGd := lk_5 (List.mem_of_getElem? (i := 187) rfl) rfl

theorem gw_1155 : Cond.methodLink "CollationerLaw" (76 : Nat) ({ cls := "Collationer", name := "signAt", desc := "(IZI)I" } : Jvm.MethodName) ∈ mGd := lk_5 (List.mem_of_getElem? (i := 195) rfl) rfl

theorem gw_1156 : Cond.instanceMethod ({ cls := "Collationer", name := "signAt", desc := "(IZI)I" } : Jvm.MethodName) ∈ mGd := lk_5 (List.mem_of_getElem? (i := 196) rfl) rfl

theorem gw_1157 : Cond.selects "Collationer" ({ cls := "Collationer", name := "signAt", desc := "(IZI)I" } : Jvm.MethodName) ({ cls := "Collationer", name := "signAt", desc := "(IZI)I" } : Jvm.MethodName) ∈ mGd := lk_5 (List.mem_of_getElem? (i := 197) rfl) rfl

theorem gw_1158 : Cond.code ({ cls := "Collationer", name := "signAt", desc := "(IZI)I" } : Jvm.MethodName) prog_1_method_22_code (4 : Nat) (Option.some FieldType.int) ∈ mGd := lk_5 (List.mem_of_getElem? (i := 198) rfl) rfl

theorem gw_1169 : Cond.methodLink "CollationerLaw" (80 : Nat) ({ cls := "Collationer", name := "rules", desc := "(I)I" } : Jvm.MethodName) ∈ mGd := lk_5 (List.mem_of_getElem? (i := 209) rfl) rfl

theorem gw_1170 : Cond.instanceMethod ({ cls := "Collationer", name := "rules", desc := "(I)I" } : Jvm.MethodName) ∈ mGd := lk_5 (List.mem_of_getElem? (i := 210) rfl) rfl

theorem gw_1171 : Cond.selects "Collationer" ({ cls := "Collationer", name := "rules", desc := "(I)I" } : Jvm.MethodName) ({ cls := "Collationer", name := "rules", desc := "(I)I" } : Jvm.MethodName) ∈ mGd := lk_5 (List.mem_of_getElem? (i := 211) rfl) rfl

theorem gw_1172 : Cond.code ({ cls := "Collationer", name := "rules", desc := "(I)I" } : Jvm.MethodName) prog_1_method_23_code (2 : Nat) (Option.some FieldType.int) ∈ mGd := lk_5 (List.mem_of_getElem? (i := 212) rfl) rfl

theorem gw_1176 : Cond.methodLink "CollationerLaw" (83 : Nat) ({ cls := "Collationer", name := "itemAt", desc := "(II)I" } : Jvm.MethodName) ∈ mGd := lk_5 (List.mem_of_getElem? (i := 216) rfl) rfl

theorem gw_1177 : Cond.instanceMethod ({ cls := "Collationer", name := "itemAt", desc := "(II)I" } : Jvm.MethodName) ∈ mGd := lk_5 (List.mem_of_getElem? (i := 217) rfl) rfl

theorem gw_1178 : Cond.selects "Collationer" ({ cls := "Collationer", name := "itemAt", desc := "(II)I" } : Jvm.MethodName) ({ cls := "Collationer", name := "itemAt", desc := "(II)I" } : Jvm.MethodName) ∈ mGd := lk_5 (List.mem_of_getElem? (i := 218) rfl) rfl

theorem gw_1179 : Cond.code ({ cls := "Collationer", name := "itemAt", desc := "(II)I" } : Jvm.MethodName) prog_1_method_24_code (3 : Nat) (Option.some FieldType.int) ∈ mGd := lk_5 (List.mem_of_getElem? (i := 219) rfl) rfl

theorem gw_1193 : Cond.methodLink "CollationerLaw" (86 : Nat) ({ cls := "Collationer", name := "element", desc := "(III)I" } : Jvm.MethodName) ∈ mGd := lk_5 (List.mem_of_getElem? (i := 233) rfl) rfl

theorem gw_1194 : Cond.instanceMethod ({ cls := "Collationer", name := "element", desc := "(III)I" } : Jvm.MethodName) ∈ mGd := lk_5 (List.mem_of_getElem? (i := 234) rfl) rfl

theorem gw_1195 : Cond.selects "Collationer" ({ cls := "Collationer", name := "element", desc := "(III)I" } : Jvm.MethodName) ({ cls := "Collationer", name := "element", desc := "(III)I" } : Jvm.MethodName) ∈ mGd := lk_5 (List.mem_of_getElem? (i := 235) rfl) rfl

theorem gw_1196 : Cond.code ({ cls := "Collationer", name := "element", desc := "(III)I" } : Jvm.MethodName) prog_1_method_25_code (4 : Nat) (Option.some FieldType.int) ∈ mGd := lk_5 (List.mem_of_getElem? (i := 236) rfl) rfl

theorem gw_1209 : Cond.methodLink "CollationerLaw" (89 : Nat) ({ cls := "Collationer", name := "keyAt", desc := "(IIII)I" } : Jvm.MethodName) ∈ mGd := lk_6 (List.mem_of_getElem? (i := 9) rfl) rfl

theorem gw_1210 : Cond.instanceMethod ({ cls := "Collationer", name := "keyAt", desc := "(IIII)I" } : Jvm.MethodName) ∈ mGd := lk_6 (List.mem_of_getElem? (i := 10) rfl) rfl

theorem gw_1211 : Cond.selects "Collationer" ({ cls := "Collationer", name := "keyAt", desc := "(IIII)I" } : Jvm.MethodName) ({ cls := "Collationer", name := "keyAt", desc := "(IIII)I" } : Jvm.MethodName) ∈ mGd := lk_6 (List.mem_of_getElem? (i := 11) rfl) rfl

theorem gw_1212 : Cond.code ({ cls := "Collationer", name := "keyAt", desc := "(IIII)I" } : Jvm.MethodName) prog_1_method_26_code (5 : Nat) (Option.some FieldType.int) ∈ mGd := lk_6 (List.mem_of_getElem? (i := 12) rfl) rfl

theorem gw_1225 : Cond.methodLink "CollationerLaw" (93 : Nat) ({ cls := "Collationer", name := "compare", desc := "(IIII)I" } : Jvm.MethodName) ∈ mGd := lk_6 (List.mem_of_getElem? (i := 25) rfl) rfl

theorem gw_1226 : Cond.instanceMethod ({ cls := "Collationer", name := "compare", desc := "(IIII)I" } : Jvm.MethodName) ∈ mGd := lk_6 (List.mem_of_getElem? (i := 26) rfl) rfl

theorem gw_1227 : Cond.selects "Collationer" ({ cls := "Collationer", name := "compare", desc := "(IIII)I" } : Jvm.MethodName) ({ cls := "Collationer", name := "compare", desc := "(IIII)I" } : Jvm.MethodName) ∈ mGd := lk_6 (List.mem_of_getElem? (i := 27) rfl) rfl

theorem gw_1228 : Cond.code ({ cls := "Collationer", name := "compare", desc := "(IIII)I" } : Jvm.MethodName) prog_1_method_27_code (5 : Nat) (Option.some FieldType.int) ∈ mGd := lk_6 (List.mem_of_getElem? (i := 28) rfl) rfl

theorem gw_1238 : Cond.methodLink "CollationerLaw" (96 : Nat) ({ cls := "Collationer", name := "compareByLevels", desc := "(IIII)I" } : Jvm.MethodName) ∈ mGd := lk_6 (List.mem_of_getElem? (i := 38) rfl) rfl

theorem gw_1239 : Cond.instanceMethod ({ cls := "Collationer", name := "compareByLevels", desc := "(IIII)I" } : Jvm.MethodName) ∈ mGd := lk_6 (List.mem_of_getElem? (i := 39) rfl) rfl

theorem gw_1240 : Cond.selects "Collationer" ({ cls := "Collationer", name := "compareByLevels", desc := "(IIII)I" } : Jvm.MethodName) ({ cls := "Collationer", name := "compareByLevels", desc := "(IIII)I" } : Jvm.MethodName) ∈ mGd := lk_6 (List.mem_of_getElem? (i := 40) rfl) rfl

theorem gw_1241 : Cond.code ({ cls := "Collationer", name := "compareByLevels", desc := "(IIII)I" } : Jvm.MethodName) prog_1_method_28_code (5 : Nat) (Option.some FieldType.int) ∈ mGd := lk_6 (List.mem_of_getElem? (i := 41) rfl) rfl

theorem gw_1249 : Cond.methodLink "CollationerLaw" (99 : Nat) ({ cls := "Collationer", name := "find", desc := "(IIIII)I" } : Jvm.MethodName) ∈ mGd := lk_6 (List.mem_of_getElem? (i := 49) rfl) rfl

theorem gw_1250 : Cond.instanceMethod ({ cls := "Collationer", name := "find", desc := "(IIIII)I" } : Jvm.MethodName) ∈ mGd := lk_6 (List.mem_of_getElem? (i := 50) rfl) rfl

theorem gw_1251 : Cond.selects "Collationer" ({ cls := "Collationer", name := "find", desc := "(IIIII)I" } : Jvm.MethodName) ({ cls := "Collationer", name := "find", desc := "(IIIII)I" } : Jvm.MethodName) ∈ mGd := lk_6 (List.mem_of_getElem? (i := 51) rfl) rfl

theorem gw_1252 : Cond.code ({ cls := "Collationer", name := "find", desc := "(IIIII)I" } : Jvm.MethodName) prog_1_method_29_code (6 : Nat) (Option.some FieldType.int) ∈ mGd := lk_6 (List.mem_of_getElem? (i := 52) rfl) rfl

theorem gw_1271 : Cond.methodLink "CollationerLaw" (103 : Nat) ({ cls := "Collationer", name := "entryAt", desc := "(II)I" } : Jvm.MethodName) ∈ mGd := lk_6 (List.mem_of_getElem? (i := 71) rfl) rfl

theorem gw_1272 : Cond.instanceMethod ({ cls := "Collationer", name := "entryAt", desc := "(II)I" } : Jvm.MethodName) ∈ mGd := lk_6 (List.mem_of_getElem? (i := 72) rfl) rfl

theorem gw_1273 : Cond.selects "Collationer" ({ cls := "Collationer", name := "entryAt", desc := "(II)I" } : Jvm.MethodName) ({ cls := "Collationer", name := "entryAt", desc := "(II)I" } : Jvm.MethodName) ∈ mGd := lk_6 (List.mem_of_getElem? (i := 73) rfl) rfl

theorem gw_1274 : Cond.code ({ cls := "Collationer", name := "entryAt", desc := "(II)I" } : Jvm.MethodName) prog_1_method_31_code (3 : Nat) (Option.some FieldType.int) ∈ mGd := lk_6 (List.mem_of_getElem? (i := 74) rfl) rfl

theorem gw_1279 : Cond.methodLink "CollationerLaw" (106 : Nat) ({ cls := "Collationer", name := "beneath", desc := "(II)I" } : Jvm.MethodName) ∈ mGd := lk_6 (List.mem_of_getElem? (i := 79) rfl) rfl

theorem gw_1280 : Cond.instanceMethod ({ cls := "Collationer", name := "beneath", desc := "(II)I" } : Jvm.MethodName) ∈ mGd := lk_6 (List.mem_of_getElem? (i := 80) rfl) rfl

theorem gw_1281 : Cond.selects "Collationer" ({ cls := "Collationer", name := "beneath", desc := "(II)I" } : Jvm.MethodName) ({ cls := "Collationer", name := "beneath", desc := "(II)I" } : Jvm.MethodName) ∈ mGd := lk_6 (List.mem_of_getElem? (i := 81) rfl) rfl

theorem gw_1282 : Cond.code ({ cls := "Collationer", name := "beneath", desc := "(II)I" } : Jvm.MethodName) prog_1_method_32_code (3 : Nat) (Option.some FieldType.int) ∈ mGd := lk_6 (List.mem_of_getElem? (i := 82) rfl) rfl

theorem gw_1313 : Cond.methodLink "CollationerLaw" (109 : Nat) ({ cls := "Collationer", name := "locatorAt", desc := "(II)I" } : Jvm.MethodName) ∈ mGd := lk_6 (List.mem_of_getElem? (i := 113) rfl) rfl

theorem gw_1314 : Cond.instanceMethod ({ cls := "Collationer", name := "locatorAt", desc := "(II)I" } : Jvm.MethodName) ∈ mGd := lk_6 (List.mem_of_getElem? (i := 114) rfl) rfl

theorem gw_1315 : Cond.selects "Collationer" ({ cls := "Collationer", name := "locatorAt", desc := "(II)I" } : Jvm.MethodName) ({ cls := "Collationer", name := "locatorAt", desc := "(II)I" } : Jvm.MethodName) ∈ mGd := lk_6 (List.mem_of_getElem? (i := 115) rfl) rfl

theorem gw_1316 : Cond.code ({ cls := "Collationer", name := "locatorAt", desc := "(II)I" } : Jvm.MethodName) prog_1_method_33_code (3 : Nat) (Option.some FieldType.int) ∈ mGd := lk_6 (List.mem_of_getElem? (i := 116) rfl) rfl

theorem gw_1346 : Cond.methodLink "CollationerLaw" (112 : Nat) ({ cls := "Collationer", name := "leads", desc := "(I)I" } : Jvm.MethodName) ∈ mGd := lk_6 (List.mem_of_getElem? (i := 146) rfl) rfl

theorem gw_1347 : Cond.instanceMethod ({ cls := "Collationer", name := "leads", desc := "(I)I" } : Jvm.MethodName) ∈ mGd := lk_6 (List.mem_of_getElem? (i := 147) rfl) rfl

theorem gw_1348 : Cond.selects "Collationer" ({ cls := "Collationer", name := "leads", desc := "(I)I" } : Jvm.MethodName) ({ cls := "Collationer", name := "leads", desc := "(I)I" } : Jvm.MethodName) ∈ mGd := lk_6 (List.mem_of_getElem? (i := 148) rfl) rfl

theorem gw_1349 : Cond.code ({ cls := "Collationer", name := "leads", desc := "(I)I" } : Jvm.MethodName) prog_1_method_34_code (2 : Nat) (Option.some FieldType.int) ∈ mGd := lk_6 (List.mem_of_getElem? (i := 149) rfl) rfl

theorem gw_1353 : Cond.methodLink "CollationerLaw" (115 : Nat) ({ cls := "Collationer", name := "moved", desc := "(I)I" } : Jvm.MethodName) ∈ mGd := lk_6 (List.mem_of_getElem? (i := 153) rfl) rfl

theorem gw_1354 : Cond.instanceMethod ({ cls := "Collationer", name := "moved", desc := "(I)I" } : Jvm.MethodName) ∈ mGd := lk_6 (List.mem_of_getElem? (i := 154) rfl) rfl

theorem gw_1355 : Cond.selects "Collationer" ({ cls := "Collationer", name := "moved", desc := "(I)I" } : Jvm.MethodName) ({ cls := "Collationer", name := "moved", desc := "(I)I" } : Jvm.MethodName) ∈ mGd := lk_6 (List.mem_of_getElem? (i := 155) rfl) rfl

theorem gw_1356 : Cond.code ({ cls := "Collationer", name := "moved", desc := "(I)I" } : Jvm.MethodName) prog_1_method_36_code (6 : Nat) (Option.some FieldType.int) ∈ mGd := lk_6 (List.mem_of_getElem? (i := 156) rfl) rfl

theorem gw_1365 : Cond.methodLink "CollationerLaw" (118 : Nat) ({ cls := "Collationer", name := "columnOf", desc := "(II)I" } : Jvm.MethodName) ∈ mGd := lk_6 (List.mem_of_getElem? (i := 165) rfl) rfl

theorem gw_1366 : Cond.instanceMethod ({ cls := "Collationer", name := "columnOf", desc := "(II)I" } : Jvm.MethodName) ∈ mGd := lk_6 (List.mem_of_getElem? (i := 166) rfl) rfl

theorem gw_1367 : Cond.selects "Collationer" ({ cls := "Collationer", name := "columnOf", desc := "(II)I" } : Jvm.MethodName) ({ cls := "Collationer", name := "columnOf", desc := "(II)I" } : Jvm.MethodName) ∈ mGd := lk_6 (List.mem_of_getElem? (i := 167) rfl) rfl

theorem gw_1368 : Cond.code ({ cls := "Collationer", name := "columnOf", desc := "(II)I" } : Jvm.MethodName) prog_1_method_37_code (3 : Nat) (Option.some FieldType.int) ∈ mGd := lk_6 (List.mem_of_getElem? (i := 168) rfl) rfl

theorem gw_1399 : Cond.methodLink "CollationerLaw" (121 : Nat) ({ cls := "Collationer", name := "lineAt", desc := "(IZI)I" } : Jvm.MethodName) ∈ mGd := lk_6 (List.mem_of_getElem? (i := 199) rfl) rfl

theorem gw_1400 : Cond.instanceMethod ({ cls := "Collationer", name := "lineAt", desc := "(IZI)I" } : Jvm.MethodName) ∈ mGd := lk_6 (List.mem_of_getElem? (i := 200) rfl) rfl

theorem gw_1401 : Cond.selects "Collationer" ({ cls := "Collationer", name := "lineAt", desc := "(IZI)I" } : Jvm.MethodName) ({ cls := "Collationer", name := "lineAt", desc := "(IZI)I" } : Jvm.MethodName) ∈ mGd := lk_6 (List.mem_of_getElem? (i := 201) rfl) rfl

theorem gw_1402 : Cond.code ({ cls := "Collationer", name := "lineAt", desc := "(IZI)I" } : Jvm.MethodName) prog_1_method_38_code (4 : Nat) (Option.some FieldType.int) ∈ mGd := lk_6 (List.mem_of_getElem? (i := 202) rfl) rfl

theorem gw_21 : Cond.classLink "CollationerLaw" (8 : Nat) "Collationer" ∈ mGd := lk_1 (List.mem_of_getElem? (i := 21) rfl) rfl

theorem gw_22 : Cond.instantiable "Collationer" (20 : Nat) ∈ mGd := lk_1 (List.mem_of_getElem? (i := 22) rfl) rfl

theorem gw_23 : Cond.methodLink "CollationerLaw" (124 : Nat) ({ cls := "Collationer", name := "<init>", desc := "()V" } : Jvm.MethodName) ∈ mGd := lk_1 (List.mem_of_getElem? (i := 23) rfl) rfl

theorem gw_24 : Cond.instanceMethod ({ cls := "Collationer", name := "<init>", desc := "()V" } : Jvm.MethodName) ∈ mGd := lk_1 (List.mem_of_getElem? (i := 24) rfl) rfl

theorem gw_25 : Cond.code ({ cls := "Collationer", name := "<init>", desc := "()V" } : Jvm.MethodName) prog_1_method_1_code (2 : Nat) (Option.none : Option FieldType) ∈ mGd := lk_1 (List.mem_of_getElem? (i := 25) rfl) rfl

theorem gw_1434 : Cond.classLink "CollationerLaw" (125 : Nat) "CollationerModel" ∈ mGd := lk_6 (List.mem_of_getElem? (i := 234) rfl) rfl

theorem gw_1435 : Cond.instantiable "CollationerModel" (70 : Nat) ∈ mGd := lk_6 (List.mem_of_getElem? (i := 235) rfl) rfl

theorem gw_1436 : Cond.methodLink "CollationerLaw" (127 : Nat) ({ cls := "CollationerModel", name := "<init>", desc := "()V" } : Jvm.MethodName) ∈ mGd := lk_6 (List.mem_of_getElem? (i := 236) rfl) rfl

theorem gw_1437 : Cond.instanceMethod ({ cls := "CollationerModel", name := "<init>", desc := "()V" } : Jvm.MethodName) ∈ mGd := lk_6 (List.mem_of_getElem? (i := 237) rfl) rfl

theorem gw_1438 : Cond.code ({ cls := "CollationerModel", name := "<init>", desc := "()V" } : Jvm.MethodName) prog_13_method_1_code (3 : Nat) (Option.none : Option FieldType) ∈ mGd := lk_6 (List.mem_of_getElem? (i := 238) rfl) rfl

theorem gw_2116 : Cond.arrayClass FieldType.long ∈ mGd := lk_9 (List.mem_of_getElem? (i := 196) rfl) rfl

theorem gw_416 : Cond.methodLink "CollationerLaw" (128 : Nat) ({ cls := "CollationerLaw", name := "sign", desc := "(LCollationer;I[J)I" } : Jvm.MethodName) ∈ mGd := lk_2 (List.mem_of_getElem? (i := 176) rfl) rfl

theorem gw_417 : Cond.static ({ cls := "CollationerLaw", name := "sign", desc := "(LCollationer;I[J)I" } : Jvm.MethodName) ∈ mGd := lk_2 (List.mem_of_getElem? (i := 177) rfl) rfl

theorem gw_418 : Cond.codeWith ({ cls := "CollationerLaw", name := "sign", desc := "(LCollationer;I[J)I" } : Jvm.MethodName) method_3_code (4 : Nat) (Option.some FieldType.int) [((0 : Nat), (9 : Nat), (12 : Nat), (13 : Nat)), ((0 : Nat), (9 : Nat), (15 : Nat), (15 : Nat))] ∈ mGd := lk_2 (List.mem_of_getElem? (i := 178) rfl) rfl

theorem gw_0 : Cond.initialized "CollationerLaw" ∈ mGd := lk_1 (List.mem_of_getElem? (i := 0) rfl) rfl

theorem gw_1663 : Cond.methodLink "CollationerLaw" (133 : Nat) ({ cls := "CollationerModel", name := "sign", desc := "(I)I" } : Jvm.MethodName) ∈ mGd := lk_7 (List.mem_of_getElem? (i := 223) rfl) rfl

theorem gw_1664 : Cond.instanceMethod ({ cls := "CollationerModel", name := "sign", desc := "(I)I" } : Jvm.MethodName) ∈ mGd := lk_7 (List.mem_of_getElem? (i := 224) rfl) rfl

theorem gw_1665 : Cond.selects "CollationerModel" ({ cls := "CollationerModel", name := "sign", desc := "(I)I" } : Jvm.MethodName) ({ cls := "CollationerModel", name := "sign", desc := "(I)I" } : Jvm.MethodName) ∈ mGd := lk_7 (List.mem_of_getElem? (i := 225) rfl) rfl

theorem gw_1666 : Cond.code ({ cls := "CollationerModel", name := "sign", desc := "(I)I" } : Jvm.MethodName) prog_13_method_14_code (2 : Nat) (Option.some FieldType.int) ∈ mGd := lk_7 (List.mem_of_getElem? (i := 226) rfl) rfl

theorem gw_1659 : Cond.methodLink "CollationerLaw" (134 : Nat) ({ cls := "CollationerModel", name := "thrown", desc := "()I" } : Jvm.MethodName) ∈ mGd := lk_7 (List.mem_of_getElem? (i := 219) rfl) rfl

theorem gw_1660 : Cond.instanceMethod ({ cls := "CollationerModel", name := "thrown", desc := "()I" } : Jvm.MethodName) ∈ mGd := lk_7 (List.mem_of_getElem? (i := 220) rfl) rfl

theorem gw_1661 : Cond.selects "CollationerModel" ({ cls := "CollationerModel", name := "thrown", desc := "()I" } : Jvm.MethodName) ({ cls := "CollationerModel", name := "thrown", desc := "()I" } : Jvm.MethodName) ∈ mGd := lk_7 (List.mem_of_getElem? (i := 221) rfl) rfl

theorem gw_1662 : Cond.code ({ cls := "CollationerModel", name := "thrown", desc := "()I" } : Jvm.MethodName) prog_13_method_3_code (1 : Nat) (Option.some FieldType.int) ∈ mGd := lk_7 (List.mem_of_getElem? (i := 222) rfl) rfl

theorem gw_522 : Cond.methodLink "CollationerLaw" (137 : Nat) ({ cls := "CollationerLaw", name := "compose", desc := "(LCollationer;III[J)I" } : Jvm.MethodName) ∈ mGd := lk_3 (List.mem_of_getElem? (i := 42) rfl) rfl

theorem gw_523 : Cond.static ({ cls := "CollationerLaw", name := "compose", desc := "(LCollationer;III[J)I" } : Jvm.MethodName) ∈ mGd := lk_3 (List.mem_of_getElem? (i := 43) rfl) rfl

theorem gw_524 : Cond.codeWith ({ cls := "CollationerLaw", name := "compose", desc := "(LCollationer;III[J)I" } : Jvm.MethodName) method_4_code (6 : Nat) (Option.some FieldType.int) [((0 : Nat), (12 : Nat), (15 : Nat), (13 : Nat)), ((0 : Nat), (12 : Nat), (19 : Nat), (15 : Nat))] ∈ mGd := lk_3 (List.mem_of_getElem? (i := 44) rfl) rfl

theorem gw_1678 : Cond.methodLink "CollationerLaw" (140 : Nat) ({ cls := "CollationerModel", name := "compose", desc := "(III)I" } : Jvm.MethodName) ∈ mGd := lk_7 (List.mem_of_getElem? (i := 238) rfl) rfl

theorem gw_1679 : Cond.instanceMethod ({ cls := "CollationerModel", name := "compose", desc := "(III)I" } : Jvm.MethodName) ∈ mGd := lk_7 (List.mem_of_getElem? (i := 239) rfl) rfl

theorem gw_1680 : Cond.selects "CollationerModel" ({ cls := "CollationerModel", name := "compose", desc := "(III)I" } : Jvm.MethodName) ({ cls := "CollationerModel", name := "compose", desc := "(III)I" } : Jvm.MethodName) ∈ mGd := lk_8 (List.mem_of_getElem? (i := 0) rfl) rfl

theorem gw_1681 : Cond.code ({ cls := "CollationerModel", name := "compose", desc := "(III)I" } : Jvm.MethodName) prog_13_method_16_code (8 : Nat) (Option.some FieldType.int) ∈ mGd := lk_8 (List.mem_of_getElem? (i := 1) rfl) rfl

theorem gw_553 : Cond.methodLink "CollationerLaw" (141 : Nat) ({ cls := "CollationerLaw", name := "text", desc := "(LCollationer;[J)I" } : Jvm.MethodName) ∈ mGd := lk_3 (List.mem_of_getElem? (i := 73) rfl) rfl

theorem gw_554 : Cond.static ({ cls := "CollationerLaw", name := "text", desc := "(LCollationer;[J)I" } : Jvm.MethodName) ∈ mGd := lk_3 (List.mem_of_getElem? (i := 74) rfl) rfl

theorem gw_555 : Cond.codeWith ({ cls := "CollationerLaw", name := "text", desc := "(LCollationer;[J)I" } : Jvm.MethodName) method_5_code (3 : Nat) (Option.some FieldType.int) [((0 : Nat), (8 : Nat), (11 : Nat), (15 : Nat))] ∈ mGd := lk_3 (List.mem_of_getElem? (i := 75) rfl) rfl

theorem gw_1692 : Cond.methodLink "CollationerLaw" (144 : Nat) ({ cls := "CollationerModel", name := "text", desc := "()I" } : Jvm.MethodName) ∈ mGd := lk_8 (List.mem_of_getElem? (i := 12) rfl) rfl

theorem gw_1693 : Cond.instanceMethod ({ cls := "CollationerModel", name := "text", desc := "()I" } : Jvm.MethodName) ∈ mGd := lk_8 (List.mem_of_getElem? (i := 13) rfl) rfl

theorem gw_1694 : Cond.selects "CollationerModel" ({ cls := "CollationerModel", name := "text", desc := "()I" } : Jvm.MethodName) ({ cls := "CollationerModel", name := "text", desc := "()I" } : Jvm.MethodName) ∈ mGd := lk_8 (List.mem_of_getElem? (i := 14) rfl) rfl

theorem gw_1695 : Cond.code ({ cls := "CollationerModel", name := "text", desc := "()I" } : Jvm.MethodName) prog_13_method_19_code (2 : Nat) (Option.some FieldType.int) ∈ mGd := lk_8 (List.mem_of_getElem? (i := 15) rfl) rfl

theorem gw_362 : Cond.methodLink "CollationerLaw" (145 : Nat) ({ cls := "Collationer", name := "wipe", desc := "()I" } : Jvm.MethodName) ∈ mGd := lk_2 (List.mem_of_getElem? (i := 122) rfl) rfl

theorem gw_363 : Cond.instanceMethod ({ cls := "Collationer", name := "wipe", desc := "()I" } : Jvm.MethodName) ∈ mGd := lk_2 (List.mem_of_getElem? (i := 123) rfl) rfl

theorem gw_364 : Cond.selects "Collationer" ({ cls := "Collationer", name := "wipe", desc := "()I" } : Jvm.MethodName) ({ cls := "Collationer", name := "wipe", desc := "()I" } : Jvm.MethodName) ∈ mGd := lk_2 (List.mem_of_getElem? (i := 124) rfl) rfl

theorem gw_365 : Cond.code ({ cls := "Collationer", name := "wipe", desc := "()I" } : Jvm.MethodName) prog_1_method_5_code (2 : Nat) (Option.some FieldType.int) ∈ mGd := lk_2 (List.mem_of_getElem? (i := 125) rfl) rfl

theorem gw_1707 : Cond.methodLink "CollationerLaw" (148 : Nat) ({ cls := "CollationerModel", name := "wipe", desc := "()I" } : Jvm.MethodName) ∈ mGd := lk_8 (List.mem_of_getElem? (i := 27) rfl) rfl

theorem gw_1708 : Cond.instanceMethod ({ cls := "CollationerModel", name := "wipe", desc := "()I" } : Jvm.MethodName) ∈ mGd := lk_8 (List.mem_of_getElem? (i := 28) rfl) rfl

theorem gw_1709 : Cond.selects "CollationerModel" ({ cls := "CollationerModel", name := "wipe", desc := "()I" } : Jvm.MethodName) ({ cls := "CollationerModel", name := "wipe", desc := "()I" } : Jvm.MethodName) ∈ mGd := lk_8 (List.mem_of_getElem? (i := 29) rfl) rfl

theorem gw_1710 : Cond.code ({ cls := "CollationerModel", name := "wipe", desc := "()I" } : Jvm.MethodName) prog_13_method_20_code (2 : Nat) (Option.some FieldType.int) ∈ mGd := lk_8 (List.mem_of_getElem? (i := 30) rfl) rfl

theorem gw_595 : Cond.methodLink "CollationerLaw" (149 : Nat) ({ cls := "CollationerLaw", name := "anchor", desc := "(LCollationer;[J)I" } : Jvm.MethodName) ∈ mGd := lk_3 (List.mem_of_getElem? (i := 115) rfl) rfl

theorem gw_596 : Cond.static ({ cls := "CollationerLaw", name := "anchor", desc := "(LCollationer;[J)I" } : Jvm.MethodName) ∈ mGd := lk_3 (List.mem_of_getElem? (i := 116) rfl) rfl

theorem gw_597 : Cond.codeWith ({ cls := "CollationerLaw", name := "anchor", desc := "(LCollationer;[J)I" } : Jvm.MethodName) method_6_code (3 : Nat) (Option.some FieldType.int) [((0 : Nat), (8 : Nat), (11 : Nat), (15 : Nat))] ∈ mGd := lk_3 (List.mem_of_getElem? (i := 117) rfl) rfl

theorem gw_1711 : Cond.methodLink "CollationerLaw" (151 : Nat) ({ cls := "CollationerModel", name := "anchor", desc := "()I" } : Jvm.MethodName) ∈ mGd := lk_8 (List.mem_of_getElem? (i := 31) rfl) rfl

theorem gw_1712 : Cond.instanceMethod ({ cls := "CollationerModel", name := "anchor", desc := "()I" } : Jvm.MethodName) ∈ mGd := lk_8 (List.mem_of_getElem? (i := 32) rfl) rfl

theorem gw_1713 : Cond.selects "CollationerModel" ({ cls := "CollationerModel", name := "anchor", desc := "()I" } : Jvm.MethodName) ({ cls := "CollationerModel", name := "anchor", desc := "()I" } : Jvm.MethodName) ∈ mGd := lk_8 (List.mem_of_getElem? (i := 33) rfl) rfl

theorem gw_1714 : Cond.code ({ cls := "CollationerModel", name := "anchor", desc := "()I" } : Jvm.MethodName) prog_13_method_40_code (2 : Nat) (Option.some FieldType.int) ∈ mGd := lk_8 (List.mem_of_getElem? (i := 34) rfl) rfl

theorem gw_603 : Cond.methodLink "CollationerLaw" (152 : Nat) ({ cls := "CollationerLaw", name := "rule", desc := "(LCollationer;II[J)I" } : Jvm.MethodName) ∈ mGd := lk_3 (List.mem_of_getElem? (i := 123) rfl) rfl

theorem gw_604 : Cond.static ({ cls := "CollationerLaw", name := "rule", desc := "(LCollationer;II[J)I" } : Jvm.MethodName) ∈ mGd := lk_3 (List.mem_of_getElem? (i := 124) rfl) rfl

theorem gw_605 : Cond.codeWith ({ cls := "CollationerLaw", name := "rule", desc := "(LCollationer;II[J)I" } : Jvm.MethodName) method_7_code (5 : Nat) (Option.some FieldType.int) [((0 : Nat), (10 : Nat), (13 : Nat), (13 : Nat)), ((0 : Nat), (10 : Nat), (17 : Nat), (32 : Nat)), ((0 : Nat), (10 : Nat), (21 : Nat), (15 : Nat))] ∈ mGd := lk_3 (List.mem_of_getElem? (i := 125) rfl) rfl

theorem gw_1715 : Cond.methodLink "CollationerLaw" (155 : Nat) ({ cls := "CollationerModel", name := "rule", desc := "(II)I" } : Jvm.MethodName) ∈ mGd := lk_8 (List.mem_of_getElem? (i := 35) rfl) rfl

theorem gw_1716 : Cond.instanceMethod ({ cls := "CollationerModel", name := "rule", desc := "(II)I" } : Jvm.MethodName) ∈ mGd := lk_8 (List.mem_of_getElem? (i := 36) rfl) rfl

theorem gw_1717 : Cond.selects "CollationerModel" ({ cls := "CollationerModel", name := "rule", desc := "(II)I" } : Jvm.MethodName) ({ cls := "CollationerModel", name := "rule", desc := "(II)I" } : Jvm.MethodName) ∈ mGd := lk_8 (List.mem_of_getElem? (i := 37) rfl) rfl

theorem gw_1718 : Cond.code ({ cls := "CollationerModel", name := "rule", desc := "(II)I" } : Jvm.MethodName) prog_13_method_42_code (7 : Nat) (Option.some FieldType.int) ∈ mGd := lk_8 (List.mem_of_getElem? (i := 38) rfl) rfl

theorem gw_894 : Cond.methodLink "CollationerLaw" (156 : Nat) ({ cls := "CollationerLaw", name := "adopt", desc := "(LCollationer;II[J)I" } : Jvm.MethodName) ∈ mGd := lk_4 (List.mem_of_getElem? (i := 174) rfl) rfl

theorem gw_895 : Cond.static ({ cls := "CollationerLaw", name := "adopt", desc := "(LCollationer;II[J)I" } : Jvm.MethodName) ∈ mGd := lk_4 (List.mem_of_getElem? (i := 175) rfl) rfl

theorem gw_896 : Cond.codeWith ({ cls := "CollationerLaw", name := "adopt", desc := "(LCollationer;II[J)I" } : Jvm.MethodName) method_8_code (5 : Nat) (Option.some FieldType.int) [((0 : Nat), (10 : Nat), (13 : Nat), (13 : Nat)), ((0 : Nat), (10 : Nat), (17 : Nat), (32 : Nat)), ((0 : Nat), (10 : Nat), (21 : Nat), (15 : Nat))] ∈ mGd := lk_4 (List.mem_of_getElem? (i := 176) rfl) rfl

theorem gw_1865 : Cond.methodLink "CollationerLaw" (158 : Nat) ({ cls := "CollationerModel", name := "adopt", desc := "(II)I" } : Jvm.MethodName) ∈ mGd := lk_8 (List.mem_of_getElem? (i := 185) rfl) rfl

theorem gw_1866 : Cond.instanceMethod ({ cls := "CollationerModel", name := "adopt", desc := "(II)I" } : Jvm.MethodName) ∈ mGd := lk_8 (List.mem_of_getElem? (i := 186) rfl) rfl

theorem gw_1867 : Cond.selects "CollationerModel" ({ cls := "CollationerModel", name := "adopt", desc := "(II)I" } : Jvm.MethodName) ({ cls := "CollationerModel", name := "adopt", desc := "(II)I" } : Jvm.MethodName) ∈ mGd := lk_8 (List.mem_of_getElem? (i := 187) rfl) rfl

theorem gw_1868 : Cond.code ({ cls := "CollationerModel", name := "adopt", desc := "(II)I" } : Jvm.MethodName) prog_13_method_45_code (5 : Nat) (Option.some FieldType.int) ∈ mGd := lk_8 (List.mem_of_getElem? (i := 188) rfl) rfl

theorem gw_914 : Cond.methodLink "CollationerLaw" (159 : Nat) ({ cls := "CollationerLaw", name := "option", desc := "(LCollationer;IIZ[J)I" } : Jvm.MethodName) ∈ mGd := lk_4 (List.mem_of_getElem? (i := 194) rfl) rfl

theorem gw_915 : Cond.static ({ cls := "CollationerLaw", name := "option", desc := "(LCollationer;IIZ[J)I" } : Jvm.MethodName) ∈ mGd := lk_4 (List.mem_of_getElem? (i := 195) rfl) rfl

theorem gw_916 : Cond.codeWith ({ cls := "CollationerLaw", name := "option", desc := "(LCollationer;IIZ[J)I" } : Jvm.MethodName) method_9_code (6 : Nat) (Option.some FieldType.int) [((0 : Nat), (19 : Nat), (22 : Nat), (13 : Nat))] ∈ mGd := lk_4 (List.mem_of_getElem? (i := 196) rfl) rfl

theorem gw_1877 : Cond.methodLink "CollationerLaw" (162 : Nat) ({ cls := "CollationerModel", name := "option", desc := "(IIZ)Z" } : Jvm.MethodName) ∈ mGd := lk_8 (List.mem_of_getElem? (i := 197) rfl) rfl

theorem gw_1878 : Cond.instanceMethod ({ cls := "CollationerModel", name := "option", desc := "(IIZ)Z" } : Jvm.MethodName) ∈ mGd := lk_8 (List.mem_of_getElem? (i := 198) rfl) rfl

theorem gw_1879 : Cond.selects "CollationerModel" ({ cls := "CollationerModel", name := "option", desc := "(IIZ)Z" } : Jvm.MethodName) ({ cls := "CollationerModel", name := "option", desc := "(IIZ)Z" } : Jvm.MethodName) ∈ mGd := lk_8 (List.mem_of_getElem? (i := 199) rfl) rfl

theorem gw_1880 : Cond.code ({ cls := "CollationerModel", name := "option", desc := "(IIZ)Z" } : Jvm.MethodName) prog_13_method_46_code (5 : Nat) (Option.some FieldType.boolean) ∈ mGd := lk_8 (List.mem_of_getElem? (i := 200) rfl) rfl

theorem gw_927 : Cond.methodLink "CollationerLaw" (163 : Nat) ({ cls := "CollationerLaw", name := "heading", desc := "(LCollationer;IZ[J)I" } : Jvm.MethodName) ∈ mGd := lk_4 (List.mem_of_getElem? (i := 207) rfl) rfl

theorem gw_928 : Cond.static ({ cls := "CollationerLaw", name := "heading", desc := "(LCollationer;IZ[J)I" } : Jvm.MethodName) ∈ mGd := lk_4 (List.mem_of_getElem? (i := 208) rfl) rfl

theorem gw_929 : Cond.codeWith ({ cls := "CollationerLaw", name := "heading", desc := "(LCollationer;IZ[J)I" } : Jvm.MethodName) method_10_code (5 : Nat) (Option.some FieldType.int) [((0 : Nat), (10 : Nat), (13 : Nat), (13 : Nat))] ∈ mGd := lk_4 (List.mem_of_getElem? (i := 209) rfl) rfl

theorem gw_1957 : Cond.methodLink "CollationerLaw" (166 : Nat) ({ cls := "CollationerModel", name := "heading", desc := "(IZ)I" } : Jvm.MethodName) ∈ mGd := lk_9 (List.mem_of_getElem? (i := 37) rfl) rfl

theorem gw_1958 : Cond.instanceMethod ({ cls := "CollationerModel", name := "heading", desc := "(IZ)I" } : Jvm.MethodName) ∈ mGd := lk_9 (List.mem_of_getElem? (i := 38) rfl) rfl

theorem gw_1959 : Cond.selects "CollationerModel" ({ cls := "CollationerModel", name := "heading", desc := "(IZ)I" } : Jvm.MethodName) ({ cls := "CollationerModel", name := "heading", desc := "(IZ)I" } : Jvm.MethodName) ∈ mGd := lk_9 (List.mem_of_getElem? (i := 39) rfl) rfl

theorem gw_1960 : Cond.code ({ cls := "CollationerModel", name := "heading", desc := "(IZ)I" } : Jvm.MethodName) prog_13_method_75_code (5 : Nat) (Option.some FieldType.int) ∈ mGd := lk_9 (List.mem_of_getElem? (i := 40) rfl) rfl

theorem gw_935 : Cond.methodLink "CollationerLaw" (167 : Nat) ({ cls := "CollationerLaw", name := "entry", desc := "(LCollationer;III[J)I" } : Jvm.MethodName) ∈ mGd := lk_4 (List.mem_of_getElem? (i := 215) rfl) rfl

theorem gw_936 : Cond.static ({ cls := "CollationerLaw", name := "entry", desc := "(LCollationer;III[J)I" } : Jvm.MethodName) ∈ mGd := lk_4 (List.mem_of_getElem? (i := 216) rfl) rfl

theorem gw_937 : Cond.codeWith ({ cls := "CollationerLaw", name := "entry", desc := "(LCollationer;III[J)I" } : Jvm.MethodName) method_11_code (6 : Nat) (Option.some FieldType.int) [((0 : Nat), (12 : Nat), (15 : Nat), (13 : Nat)), ((0 : Nat), (12 : Nat), (19 : Nat), (32 : Nat)), ((0 : Nat), (12 : Nat), (23 : Nat), (15 : Nat))] ∈ mGd := lk_4 (List.mem_of_getElem? (i := 217) rfl) rfl

theorem gw_1961 : Cond.methodLink "CollationerLaw" (169 : Nat) ({ cls := "CollationerModel", name := "entry", desc := "(III)I" } : Jvm.MethodName) ∈ mGd := lk_9 (List.mem_of_getElem? (i := 41) rfl) rfl

theorem gw_1962 : Cond.instanceMethod ({ cls := "CollationerModel", name := "entry", desc := "(III)I" } : Jvm.MethodName) ∈ mGd := lk_9 (List.mem_of_getElem? (i := 42) rfl) rfl

theorem gw_1963 : Cond.selects "CollationerModel" ({ cls := "CollationerModel", name := "entry", desc := "(III)I" } : Jvm.MethodName) ({ cls := "CollationerModel", name := "entry", desc := "(III)I" } : Jvm.MethodName) ∈ mGd := lk_9 (List.mem_of_getElem? (i := 43) rfl) rfl

theorem gw_1964 : Cond.code ({ cls := "CollationerModel", name := "entry", desc := "(III)I" } : Jvm.MethodName) prog_13_method_77_code (6 : Nat) (Option.some FieldType.int) ∈ mGd := lk_9 (List.mem_of_getElem? (i := 44) rfl) rfl

theorem gw_969 : Cond.methodLink "CollationerLaw" (170 : Nat) ({ cls := "CollationerLaw", name := "form", desc := "(LCollationer;III[J)I" } : Jvm.MethodName) ∈ mGd := lk_5 (List.mem_of_getElem? (i := 9) rfl) rfl

theorem gw_970 : Cond.static ({ cls := "CollationerLaw", name := "form", desc := "(LCollationer;III[J)I" } : Jvm.MethodName) ∈ mGd := lk_5 (List.mem_of_getElem? (i := 10) rfl) rfl

theorem gw_971 : Cond.codeWith ({ cls := "CollationerLaw", name := "form", desc := "(LCollationer;III[J)I" } : Jvm.MethodName) method_12_code (6 : Nat) (Option.some FieldType.int) [((0 : Nat), (12 : Nat), (15 : Nat), (13 : Nat)), ((0 : Nat), (12 : Nat), (19 : Nat), (32 : Nat))] ∈ mGd := lk_5 (List.mem_of_getElem? (i := 11) rfl) rfl

theorem gw_1969 : Cond.methodLink "CollationerLaw" (172 : Nat) ({ cls := "CollationerModel", name := "form", desc := "(III)I" } : Jvm.MethodName) ∈ mGd := lk_9 (List.mem_of_getElem? (i := 49) rfl) rfl

theorem gw_1970 : Cond.instanceMethod ({ cls := "CollationerModel", name := "form", desc := "(III)I" } : Jvm.MethodName) ∈ mGd := lk_9 (List.mem_of_getElem? (i := 50) rfl) rfl

theorem gw_1971 : Cond.selects "CollationerModel" ({ cls := "CollationerModel", name := "form", desc := "(III)I" } : Jvm.MethodName) ({ cls := "CollationerModel", name := "form", desc := "(III)I" } : Jvm.MethodName) ∈ mGd := lk_9 (List.mem_of_getElem? (i := 51) rfl) rfl

theorem gw_1972 : Cond.code ({ cls := "CollationerModel", name := "form", desc := "(III)I" } : Jvm.MethodName) prog_13_method_78_code (8 : Nat) (Option.some FieldType.int) ∈ mGd := lk_9 (List.mem_of_getElem? (i := 52) rfl) rfl

theorem gw_986 : Cond.methodLink "CollationerLaw" (173 : Nat) ({ cls := "CollationerLaw", name := "locate", desc := "(LCollationer;III[J)I" } : Jvm.MethodName) ∈ mGd := lk_5 (List.mem_of_getElem? (i := 26) rfl) rfl

theorem gw_987 : Cond.static ({ cls := "CollationerLaw", name := "locate", desc := "(LCollationer;III[J)I" } : Jvm.MethodName) ∈ mGd := lk_5 (List.mem_of_getElem? (i := 27) rfl) rfl

theorem gw_988 : Cond.codeWith ({ cls := "CollationerLaw", name := "locate", desc := "(LCollationer;III[J)I" } : Jvm.MethodName) method_13_code (6 : Nat) (Option.some FieldType.int) [((0 : Nat), (19 : Nat), (22 : Nat), (13 : Nat)), ((0 : Nat), (19 : Nat), (26 : Nat), (32 : Nat)), ((0 : Nat), (19 : Nat), (30 : Nat), (15 : Nat))] ∈ mGd := lk_5 (List.mem_of_getElem? (i := 28) rfl) rfl

theorem gw_1973 : Cond.methodLink "CollationerLaw" (175 : Nat) ({ cls := "CollationerModel", name := "locate", desc := "(III)Z" } : Jvm.MethodName) ∈ mGd := lk_9 (List.mem_of_getElem? (i := 53) rfl) rfl

theorem gw_1974 : Cond.instanceMethod ({ cls := "CollationerModel", name := "locate", desc := "(III)Z" } : Jvm.MethodName) ∈ mGd := lk_9 (List.mem_of_getElem? (i := 54) rfl) rfl

theorem gw_1975 : Cond.selects "CollationerModel" ({ cls := "CollationerModel", name := "locate", desc := "(III)Z" } : Jvm.MethodName) ({ cls := "CollationerModel", name := "locate", desc := "(III)Z" } : Jvm.MethodName) ∈ mGd := lk_9 (List.mem_of_getElem? (i := 55) rfl) rfl

theorem gw_1976 : Cond.code ({ cls := "CollationerModel", name := "locate", desc := "(III)Z" } : Jvm.MethodName) prog_13_method_80_code (7 : Nat) (Option.some FieldType.boolean) ∈ mGd := lk_9 (List.mem_of_getElem? (i := 56) rfl) rfl

theorem gw_1016 : Cond.methodLink "CollationerLaw" (176 : Nat) ({ cls := "CollationerLaw", name := "see", desc := "(LCollationer;IIZ[J)I" } : Jvm.MethodName) ∈ mGd := lk_5 (List.mem_of_getElem? (i := 56) rfl) rfl

theorem gw_1017 : Cond.static ({ cls := "CollationerLaw", name := "see", desc := "(LCollationer;IIZ[J)I" } : Jvm.MethodName) ∈ mGd := lk_5 (List.mem_of_getElem? (i := 57) rfl) rfl

theorem gw_1018 : Cond.codeWith ({ cls := "CollationerLaw", name := "see", desc := "(LCollationer;IIZ[J)I" } : Jvm.MethodName) method_14_code (6 : Nat) (Option.some FieldType.int) [((0 : Nat), (19 : Nat), (22 : Nat), (13 : Nat)), ((0 : Nat), (19 : Nat), (26 : Nat), (32 : Nat)), ((0 : Nat), (19 : Nat), (30 : Nat), (15 : Nat))] ∈ mGd := lk_5 (List.mem_of_getElem? (i := 58) rfl) rfl

theorem gw_1981 : Cond.methodLink "CollationerLaw" (178 : Nat) ({ cls := "CollationerModel", name := "see", desc := "(IIZ)Z" } : Jvm.MethodName) ∈ mGd := lk_9 (List.mem_of_getElem? (i := 61) rfl) rfl

theorem gw_1982 : Cond.instanceMethod ({ cls := "CollationerModel", name := "see", desc := "(IIZ)Z" } : Jvm.MethodName) ∈ mGd := lk_9 (List.mem_of_getElem? (i := 62) rfl) rfl

theorem gw_1983 : Cond.selects "CollationerModel" ({ cls := "CollationerModel", name := "see", desc := "(IIZ)Z" } : Jvm.MethodName) ({ cls := "CollationerModel", name := "see", desc := "(IIZ)Z" } : Jvm.MethodName) ∈ mGd := lk_9 (List.mem_of_getElem? (i := 63) rfl) rfl

theorem gw_1984 : Cond.code ({ cls := "CollationerModel", name := "see", desc := "(IIZ)Z" } : Jvm.MethodName) prog_13_method_81_code (7 : Nat) (Option.some FieldType.boolean) ∈ mGd := lk_9 (List.mem_of_getElem? (i := 64) rfl) rfl

theorem gw_1028 : Cond.methodLink "CollationerLaw" (179 : Nat) ({ cls := "CollationerLaw", name := "word", desc := "(LCollationer;I[J)I" } : Jvm.MethodName) ∈ mGd := lk_5 (List.mem_of_getElem? (i := 68) rfl) rfl

theorem gw_1029 : Cond.static ({ cls := "CollationerLaw", name := "word", desc := "(LCollationer;I[J)I" } : Jvm.MethodName) ∈ mGd := lk_5 (List.mem_of_getElem? (i := 69) rfl) rfl

theorem gw_1030 : Cond.codeWith ({ cls := "CollationerLaw", name := "word", desc := "(LCollationer;I[J)I" } : Jvm.MethodName) method_15_code (4 : Nat) (Option.some FieldType.int) [((0 : Nat), (9 : Nat), (12 : Nat), (13 : Nat)), ((0 : Nat), (9 : Nat), (15 : Nat), (15 : Nat))] ∈ mGd := lk_5 (List.mem_of_getElem? (i := 70) rfl) rfl

theorem gw_2052 : Cond.methodLink "CollationerLaw" (181 : Nat) ({ cls := "CollationerModel", name := "word", desc := "(I)I" } : Jvm.MethodName) ∈ mGd := lk_9 (List.mem_of_getElem? (i := 132) rfl) rfl

theorem gw_2053 : Cond.instanceMethod ({ cls := "CollationerModel", name := "word", desc := "(I)I" } : Jvm.MethodName) ∈ mGd := lk_9 (List.mem_of_getElem? (i := 133) rfl) rfl

theorem gw_2054 : Cond.selects "CollationerModel" ({ cls := "CollationerModel", name := "word", desc := "(I)I" } : Jvm.MethodName) ({ cls := "CollationerModel", name := "word", desc := "(I)I" } : Jvm.MethodName) ∈ mGd := lk_9 (List.mem_of_getElem? (i := 134) rfl) rfl

theorem gw_2055 : Cond.code ({ cls := "CollationerModel", name := "word", desc := "(I)I" } : Jvm.MethodName) prog_13_method_106_code (2 : Nat) (Option.some FieldType.int) ∈ mGd := lk_9 (List.mem_of_getElem? (i := 135) rfl) rfl

theorem gw_1047 : Cond.methodLink "CollationerLaw" (182 : Nat) ({ cls := "CollationerLaw", name := "reading", desc := "(LCollationer;II[J)I" } : Jvm.MethodName) ∈ mGd := lk_5 (List.mem_of_getElem? (i := 87) rfl) rfl

theorem gw_1048 : Cond.static ({ cls := "CollationerLaw", name := "reading", desc := "(LCollationer;II[J)I" } : Jvm.MethodName) ∈ mGd := lk_5 (List.mem_of_getElem? (i := 88) rfl) rfl

theorem gw_1049 : Cond.codeWith ({ cls := "CollationerLaw", name := "reading", desc := "(LCollationer;II[J)I" } : Jvm.MethodName) method_16_code (5 : Nat) (Option.some FieldType.int) [((0 : Nat), (10 : Nat), (13 : Nat), (13 : Nat)), ((0 : Nat), (10 : Nat), (17 : Nat), (15 : Nat))] ∈ mGd := lk_5 (List.mem_of_getElem? (i := 89) rfl) rfl

theorem gw_2056 : Cond.methodLink "CollationerLaw" (184 : Nat) ({ cls := "CollationerModel", name := "reading", desc := "(II)I" } : Jvm.MethodName) ∈ mGd := lk_9 (List.mem_of_getElem? (i := 136) rfl) rfl

theorem gw_2057 : Cond.instanceMethod ({ cls := "CollationerModel", name := "reading", desc := "(II)I" } : Jvm.MethodName) ∈ mGd := lk_9 (List.mem_of_getElem? (i := 137) rfl) rfl

theorem gw_2058 : Cond.selects "CollationerModel" ({ cls := "CollationerModel", name := "reading", desc := "(II)I" } : Jvm.MethodName) ({ cls := "CollationerModel", name := "reading", desc := "(II)I" } : Jvm.MethodName) ∈ mGd := lk_9 (List.mem_of_getElem? (i := 138) rfl) rfl

theorem gw_2059 : Cond.code ({ cls := "CollationerModel", name := "reading", desc := "(II)I" } : Jvm.MethodName) prog_13_method_108_code (4 : Nat) (Option.some FieldType.int) ∈ mGd := lk_9 (List.mem_of_getElem? (i := 139) rfl) rfl

theorem gw_1060 : Cond.methodLink "CollationerLaw" (185 : Nat) ({ cls := "CollationerLaw", name := "read", desc := "(LCollationer;II[J)I" } : Jvm.MethodName) ∈ mGd := lk_5 (List.mem_of_getElem? (i := 100) rfl) rfl

theorem gw_1061 : Cond.static ({ cls := "CollationerLaw", name := "read", desc := "(LCollationer;II[J)I" } : Jvm.MethodName) ∈ mGd := lk_5 (List.mem_of_getElem? (i := 101) rfl) rfl

theorem gw_1062 : Cond.codeWith ({ cls := "CollationerLaw", name := "read", desc := "(LCollationer;II[J)I" } : Jvm.MethodName) method_17_code (5 : Nat) (Option.some FieldType.int) [((0 : Nat), (10 : Nat), (13 : Nat), (13 : Nat)), ((0 : Nat), (10 : Nat), (17 : Nat), (32 : Nat))] ∈ mGd := lk_5 (List.mem_of_getElem? (i := 102) rfl) rfl

theorem gw_2064 : Cond.methodLink "CollationerLaw" (187 : Nat) ({ cls := "CollationerModel", name := "read", desc := "(II)I" } : Jvm.MethodName) ∈ mGd := lk_9 (List.mem_of_getElem? (i := 144) rfl) rfl

theorem gw_2065 : Cond.instanceMethod ({ cls := "CollationerModel", name := "read", desc := "(II)I" } : Jvm.MethodName) ∈ mGd := lk_9 (List.mem_of_getElem? (i := 145) rfl) rfl

theorem gw_2066 : Cond.selects "CollationerModel" ({ cls := "CollationerModel", name := "read", desc := "(II)I" } : Jvm.MethodName) ({ cls := "CollationerModel", name := "read", desc := "(II)I" } : Jvm.MethodName) ∈ mGd := lk_9 (List.mem_of_getElem? (i := 146) rfl) rfl

theorem gw_2067 : Cond.code ({ cls := "CollationerModel", name := "read", desc := "(II)I" } : Jvm.MethodName) prog_13_method_109_code (6 : Nat) (Option.some FieldType.int) ∈ mGd := lk_9 (List.mem_of_getElem? (i := 147) rfl) rfl

theorem gw_1087 : Cond.methodLink "CollationerLaw" (188 : Nat) ({ cls := "CollationerLaw", name := "pin", desc := "(LCollationer;II[J)I" } : Jvm.MethodName) ∈ mGd := lk_5 (List.mem_of_getElem? (i := 127) rfl) rfl

theorem gw_1088 : Cond.static ({ cls := "CollationerLaw", name := "pin", desc := "(LCollationer;II[J)I" } : Jvm.MethodName) ∈ mGd := lk_5 (List.mem_of_getElem? (i := 128) rfl) rfl

theorem gw_1089 : Cond.codeWith ({ cls := "CollationerLaw", name := "pin", desc := "(LCollationer;II[J)I" } : Jvm.MethodName) method_18_code (5 : Nat) (Option.some FieldType.int) [((0 : Nat), (10 : Nat), (13 : Nat), (32 : Nat)), ((0 : Nat), (10 : Nat), (17 : Nat), (15 : Nat))] ∈ mGd := lk_5 (List.mem_of_getElem? (i := 129) rfl) rfl

theorem gw_2084 : Cond.methodLink "CollationerLaw" (190 : Nat) ({ cls := "CollationerModel", name := "pin", desc := "(II)I" } : Jvm.MethodName) ∈ mGd := lk_9 (List.mem_of_getElem? (i := 164) rfl) rfl

theorem gw_2085 : Cond.instanceMethod ({ cls := "CollationerModel", name := "pin", desc := "(II)I" } : Jvm.MethodName) ∈ mGd := lk_9 (List.mem_of_getElem? (i := 165) rfl) rfl

theorem gw_2086 : Cond.selects "CollationerModel" ({ cls := "CollationerModel", name := "pin", desc := "(II)I" } : Jvm.MethodName) ({ cls := "CollationerModel", name := "pin", desc := "(II)I" } : Jvm.MethodName) ∈ mGd := lk_9 (List.mem_of_getElem? (i := 166) rfl) rfl

theorem gw_2087 : Cond.code ({ cls := "CollationerModel", name := "pin", desc := "(II)I" } : Jvm.MethodName) prog_13_method_113_code (6 : Nat) (Option.some FieldType.int) ∈ mGd := lk_9 (List.mem_of_getElem? (i := 167) rfl) rfl

theorem gw_1111 : Cond.methodLink "CollationerLaw" (191 : Nat) ({ cls := "CollationerLaw", name := "edition", desc := "(LCollationer;[J)I" } : Jvm.MethodName) ∈ mGd := lk_5 (List.mem_of_getElem? (i := 151) rfl) rfl

theorem gw_1112 : Cond.static ({ cls := "CollationerLaw", name := "edition", desc := "(LCollationer;[J)I" } : Jvm.MethodName) ∈ mGd := lk_5 (List.mem_of_getElem? (i := 152) rfl) rfl

theorem gw_1113 : Cond.codeWith ({ cls := "CollationerLaw", name := "edition", desc := "(LCollationer;[J)I" } : Jvm.MethodName) method_19_code (3 : Nat) (Option.some FieldType.int) [((0 : Nat), (8 : Nat), (11 : Nat), (15 : Nat))] ∈ mGd := lk_5 (List.mem_of_getElem? (i := 153) rfl) rfl

theorem gw_2088 : Cond.methodLink "CollationerLaw" (193 : Nat) ({ cls := "CollationerModel", name := "edition", desc := "()I" } : Jvm.MethodName) ∈ mGd := lk_9 (List.mem_of_getElem? (i := 168) rfl) rfl

theorem gw_2089 : Cond.instanceMethod ({ cls := "CollationerModel", name := "edition", desc := "()I" } : Jvm.MethodName) ∈ mGd := lk_9 (List.mem_of_getElem? (i := 169) rfl) rfl

theorem gw_2090 : Cond.selects "CollationerModel" ({ cls := "CollationerModel", name := "edition", desc := "()I" } : Jvm.MethodName) ({ cls := "CollationerModel", name := "edition", desc := "()I" } : Jvm.MethodName) ∈ mGd := lk_9 (List.mem_of_getElem? (i := 170) rfl) rfl

theorem gw_2091 : Cond.code ({ cls := "CollationerModel", name := "edition", desc := "()I" } : Jvm.MethodName) prog_13_method_116_code (3 : Nat) (Option.some FieldType.int) ∈ mGd := lk_9 (List.mem_of_getElem? (i := 171) rfl) rfl

theorem gw_1141 : Cond.methodLink "CollationerLaw" (194 : Nat) ({ cls := "CollationerLaw", name := "columns", desc := "(LCollationer;II[J)I" } : Jvm.MethodName) ∈ mGd := lk_5 (List.mem_of_getElem? (i := 181) rfl) rfl

theorem gw_1142 : Cond.static ({ cls := "CollationerLaw", name := "columns", desc := "(LCollationer;II[J)I" } : Jvm.MethodName) ∈ mGd := lk_5 (List.mem_of_getElem? (i := 182) rfl) rfl

theorem gw_1143 : Cond.codeWith ({ cls := "CollationerLaw", name := "columns", desc := "(LCollationer;II[J)I" } : Jvm.MethodName) method_20_code (5 : Nat) (Option.some FieldType.int) [((0 : Nat), (10 : Nat), (13 : Nat), (32 : Nat))] ∈ mGd := lk_5 (List.mem_of_getElem? (i := 183) rfl) rfl

theorem gw_2100 : Cond.methodLink "CollationerLaw" (196 : Nat) ({ cls := "CollationerModel", name := "columns", desc := "(II)I" } : Jvm.MethodName) ∈ mGd := lk_9 (List.mem_of_getElem? (i := 180) rfl) rfl

theorem gw_2101 : Cond.instanceMethod ({ cls := "CollationerModel", name := "columns", desc := "(II)I" } : Jvm.MethodName) ∈ mGd := lk_9 (List.mem_of_getElem? (i := 181) rfl) rfl

theorem gw_2102 : Cond.selects "CollationerModel" ({ cls := "CollationerModel", name := "columns", desc := "(II)I" } : Jvm.MethodName) ({ cls := "CollationerModel", name := "columns", desc := "(II)I" } : Jvm.MethodName) ∈ mGd := lk_9 (List.mem_of_getElem? (i := 182) rfl) rfl

theorem gw_2103 : Cond.code ({ cls := "CollationerModel", name := "columns", desc := "(II)I" } : Jvm.MethodName) prog_13_method_117_code (4 : Nat) (Option.some FieldType.int) ∈ mGd := lk_9 (List.mem_of_getElem? (i := 183) rfl) rfl

theorem gw_368 : Cond.methodLink "CollationerLaw" (197 : Nat) ({ cls := "Collationer", name := "texts", desc := "()I" } : Jvm.MethodName) ∈ mGd := lk_2 (List.mem_of_getElem? (i := 128) rfl) rfl

theorem gw_369 : Cond.instanceMethod ({ cls := "Collationer", name := "texts", desc := "()I" } : Jvm.MethodName) ∈ mGd := lk_2 (List.mem_of_getElem? (i := 129) rfl) rfl

theorem gw_370 : Cond.selects "Collationer" ({ cls := "Collationer", name := "texts", desc := "()I" } : Jvm.MethodName) ({ cls := "Collationer", name := "texts", desc := "()I" } : Jvm.MethodName) ∈ mGd := lk_2 (List.mem_of_getElem? (i := 130) rfl) rfl

theorem gw_371 : Cond.code ({ cls := "Collationer", name := "texts", desc := "()I" } : Jvm.MethodName) prog_1_method_21_code (1 : Nat) (Option.some FieldType.int) ∈ mGd := lk_2 (List.mem_of_getElem? (i := 131) rfl) rfl

theorem gw_1890 : Cond.methodLink "CollationerLaw" (200 : Nat) ({ cls := "CollationerModel", name := "texts", desc := "()I" } : Jvm.MethodName) ∈ mGd := lk_8 (List.mem_of_getElem? (i := 210) rfl) rfl

theorem gw_1891 : Cond.instanceMethod ({ cls := "CollationerModel", name := "texts", desc := "()I" } : Jvm.MethodName) ∈ mGd := lk_8 (List.mem_of_getElem? (i := 211) rfl) rfl

theorem gw_1892 : Cond.selects "CollationerModel" ({ cls := "CollationerModel", name := "texts", desc := "()I" } : Jvm.MethodName) ({ cls := "CollationerModel", name := "texts", desc := "()I" } : Jvm.MethodName) ∈ mGd := lk_8 (List.mem_of_getElem? (i := 212) rfl) rfl

theorem gw_1893 : Cond.code ({ cls := "CollationerModel", name := "texts", desc := "()I" } : Jvm.MethodName) prog_13_method_62_code (1 : Nat) (Option.some FieldType.int) ∈ mGd := lk_8 (List.mem_of_getElem? (i := 213) rfl) rfl

theorem gw_1152 : Cond.methodLink "CollationerLaw" (201 : Nat) ({ cls := "CollationerLaw", name := "signAt", desc := "(LCollationer;IZI[J)I" } : Jvm.MethodName) ∈ mGd := lk_5 (List.mem_of_getElem? (i := 192) rfl) rfl

theorem gw_1153 : Cond.static ({ cls := "CollationerLaw", name := "signAt", desc := "(LCollationer;IZI[J)I" } : Jvm.MethodName) ∈ mGd := lk_5 (List.mem_of_getElem? (i := 193) rfl) rfl

theorem gw_1154 : Cond.codeWith ({ cls := "CollationerLaw", name := "signAt", desc := "(LCollationer;IZI[J)I" } : Jvm.MethodName) method_21_code (6 : Nat) (Option.some FieldType.int) [((0 : Nat), (12 : Nat), (15 : Nat), (13 : Nat))] ∈ mGd := lk_5 (List.mem_of_getElem? (i := 194) rfl) rfl

theorem gw_1894 : Cond.methodLink "CollationerLaw" (204 : Nat) ({ cls := "CollationerModel", name := "signAt", desc := "(IZI)I" } : Jvm.MethodName) ∈ mGd := lk_8 (List.mem_of_getElem? (i := 214) rfl) rfl

theorem gw_1895 : Cond.instanceMethod ({ cls := "CollationerModel", name := "signAt", desc := "(IZI)I" } : Jvm.MethodName) ∈ mGd := lk_8 (List.mem_of_getElem? (i := 215) rfl) rfl

theorem gw_1896 : Cond.selects "CollationerModel" ({ cls := "CollationerModel", name := "signAt", desc := "(IZI)I" } : Jvm.MethodName) ({ cls := "CollationerModel", name := "signAt", desc := "(IZI)I" } : Jvm.MethodName) ∈ mGd := lk_8 (List.mem_of_getElem? (i := 216) rfl) rfl

theorem gw_1897 : Cond.code ({ cls := "CollationerModel", name := "signAt", desc := "(IZI)I" } : Jvm.MethodName) prog_13_method_63_code (4 : Nat) (Option.some FieldType.int) ∈ mGd := lk_8 (List.mem_of_getElem? (i := 217) rfl) rfl

theorem gw_1166 : Cond.methodLink "CollationerLaw" (205 : Nat) ({ cls := "CollationerLaw", name := "rules", desc := "(LCollationer;I[J)I" } : Jvm.MethodName) ∈ mGd := lk_5 (List.mem_of_getElem? (i := 206) rfl) rfl

theorem gw_1167 : Cond.static ({ cls := "CollationerLaw", name := "rules", desc := "(LCollationer;I[J)I" } : Jvm.MethodName) ∈ mGd := lk_5 (List.mem_of_getElem? (i := 207) rfl) rfl

theorem gw_1168 : Cond.codeWith ({ cls := "CollationerLaw", name := "rules", desc := "(LCollationer;I[J)I" } : Jvm.MethodName) method_22_code (4 : Nat) (Option.some FieldType.int) [((0 : Nat), (9 : Nat), (12 : Nat), (13 : Nat))] ∈ mGd := lk_5 (List.mem_of_getElem? (i := 208) rfl) rfl

theorem gw_1881 : Cond.methodLink "CollationerLaw" (207 : Nat) ({ cls := "CollationerModel", name := "rules", desc := "(I)I" } : Jvm.MethodName) ∈ mGd := lk_8 (List.mem_of_getElem? (i := 201) rfl) rfl

theorem gw_1882 : Cond.instanceMethod ({ cls := "CollationerModel", name := "rules", desc := "(I)I" } : Jvm.MethodName) ∈ mGd := lk_8 (List.mem_of_getElem? (i := 202) rfl) rfl

theorem gw_1883 : Cond.selects "CollationerModel" ({ cls := "CollationerModel", name := "rules", desc := "(I)I" } : Jvm.MethodName) ({ cls := "CollationerModel", name := "rules", desc := "(I)I" } : Jvm.MethodName) ∈ mGd := lk_8 (List.mem_of_getElem? (i := 203) rfl) rfl

theorem gw_1884 : Cond.code ({ cls := "CollationerModel", name := "rules", desc := "(I)I" } : Jvm.MethodName) prog_13_method_47_code (2 : Nat) (Option.some FieldType.int) ∈ mGd := lk_8 (List.mem_of_getElem? (i := 204) rfl) rfl

theorem gw_1173 : Cond.methodLink "CollationerLaw" (208 : Nat) ({ cls := "CollationerLaw", name := "itemAt", desc := "(LCollationer;II[J)I" } : Jvm.MethodName) ∈ mGd := lk_5 (List.mem_of_getElem? (i := 213) rfl) rfl

theorem gw_1174 : Cond.static ({ cls := "CollationerLaw", name := "itemAt", desc := "(LCollationer;II[J)I" } : Jvm.MethodName) ∈ mGd := lk_5 (List.mem_of_getElem? (i := 214) rfl) rfl

theorem gw_1175 : Cond.codeWith ({ cls := "CollationerLaw", name := "itemAt", desc := "(LCollationer;II[J)I" } : Jvm.MethodName) method_23_code (5 : Nat) (Option.some FieldType.int) [((0 : Nat), (10 : Nat), (13 : Nat), (13 : Nat))] ∈ mGd := lk_5 (List.mem_of_getElem? (i := 215) rfl) rfl

theorem gw_1885 : Cond.methodLink "CollationerLaw" (210 : Nat) ({ cls := "CollationerModel", name := "itemAt", desc := "(II)I" } : Jvm.MethodName) ∈ mGd := lk_8 (List.mem_of_getElem? (i := 205) rfl) rfl

theorem gw_1886 : Cond.instanceMethod ({ cls := "CollationerModel", name := "itemAt", desc := "(II)I" } : Jvm.MethodName) ∈ mGd := lk_8 (List.mem_of_getElem? (i := 206) rfl) rfl

theorem gw_1887 : Cond.selects "CollationerModel" ({ cls := "CollationerModel", name := "itemAt", desc := "(II)I" } : Jvm.MethodName) ({ cls := "CollationerModel", name := "itemAt", desc := "(II)I" } : Jvm.MethodName) ∈ mGd := lk_8 (List.mem_of_getElem? (i := 207) rfl) rfl

theorem gw_1888 : Cond.code ({ cls := "CollationerModel", name := "itemAt", desc := "(II)I" } : Jvm.MethodName) prog_13_method_48_code (4 : Nat) (Option.some FieldType.int) ∈ mGd := lk_8 (List.mem_of_getElem? (i := 208) rfl) rfl

theorem gw_1190 : Cond.methodLink "CollationerLaw" (211 : Nat) ({ cls := "CollationerLaw", name := "element", desc := "(LCollationer;III[J)I" } : Jvm.MethodName) ∈ mGd := lk_5 (List.mem_of_getElem? (i := 230) rfl) rfl

theorem gw_1191 : Cond.static ({ cls := "CollationerLaw", name := "element", desc := "(LCollationer;III[J)I" } : Jvm.MethodName) ∈ mGd := lk_5 (List.mem_of_getElem? (i := 231) rfl) rfl

theorem gw_1192 : Cond.codeWith ({ cls := "CollationerLaw", name := "element", desc := "(LCollationer;III[J)I" } : Jvm.MethodName) method_24_code (6 : Nat) (Option.some FieldType.int) [((0 : Nat), (12 : Nat), (15 : Nat), (13 : Nat))] ∈ mGd := lk_5 (List.mem_of_getElem? (i := 232) rfl) rfl

theorem gw_1914 : Cond.methodLink "CollationerLaw" (213 : Nat) ({ cls := "CollationerModel", name := "element", desc := "(III)I" } : Jvm.MethodName) ∈ mGd := lk_8 (List.mem_of_getElem? (i := 234) rfl) rfl

theorem gw_1915 : Cond.instanceMethod ({ cls := "CollationerModel", name := "element", desc := "(III)I" } : Jvm.MethodName) ∈ mGd := lk_8 (List.mem_of_getElem? (i := 235) rfl) rfl

theorem gw_1916 : Cond.selects "CollationerModel" ({ cls := "CollationerModel", name := "element", desc := "(III)I" } : Jvm.MethodName) ({ cls := "CollationerModel", name := "element", desc := "(III)I" } : Jvm.MethodName) ∈ mGd := lk_8 (List.mem_of_getElem? (i := 236) rfl) rfl

theorem gw_1917 : Cond.code ({ cls := "CollationerModel", name := "element", desc := "(III)I" } : Jvm.MethodName) prog_13_method_64_code (4 : Nat) (Option.some FieldType.int) ∈ mGd := lk_8 (List.mem_of_getElem? (i := 237) rfl) rfl

theorem gw_1206 : Cond.methodLink "CollationerLaw" (214 : Nat) ({ cls := "CollationerLaw", name := "keyAt", desc := "(LCollationer;IIII[J)I" } : Jvm.MethodName) ∈ mGd := lk_6 (List.mem_of_getElem? (i := 6) rfl) rfl

theorem gw_1207 : Cond.static ({ cls := "CollationerLaw", name := "keyAt", desc := "(LCollationer;IIII[J)I" } : Jvm.MethodName) ∈ mGd := lk_6 (List.mem_of_getElem? (i := 7) rfl) rfl

theorem gw_1208 : Cond.codeWith ({ cls := "CollationerLaw", name := "keyAt", desc := "(LCollationer;IIII[J)I" } : Jvm.MethodName) method_25_code (7 : Nat) (Option.some FieldType.int) [((0 : Nat), (14 : Nat), (17 : Nat), (13 : Nat)), ((0 : Nat), (14 : Nat), (21 : Nat), (32 : Nat))] ∈ mGd := lk_6 (List.mem_of_getElem? (i := 8) rfl) rfl

theorem gw_1918 : Cond.methodLink "CollationerLaw" (217 : Nat) ({ cls := "CollationerModel", name := "keyAt", desc := "(IIII)I" } : Jvm.MethodName) ∈ mGd := lk_8 (List.mem_of_getElem? (i := 238) rfl) rfl

theorem gw_1919 : Cond.instanceMethod ({ cls := "CollationerModel", name := "keyAt", desc := "(IIII)I" } : Jvm.MethodName) ∈ mGd := lk_8 (List.mem_of_getElem? (i := 239) rfl) rfl

theorem gw_1920 : Cond.selects "CollationerModel" ({ cls := "CollationerModel", name := "keyAt", desc := "(IIII)I" } : Jvm.MethodName) ({ cls := "CollationerModel", name := "keyAt", desc := "(IIII)I" } : Jvm.MethodName) ∈ mGd := lk_9 (List.mem_of_getElem? (i := 0) rfl) rfl

theorem gw_1921 : Cond.code ({ cls := "CollationerModel", name := "keyAt", desc := "(IIII)I" } : Jvm.MethodName) prog_13_method_66_code (6 : Nat) (Option.some FieldType.int) ∈ mGd := lk_9 (List.mem_of_getElem? (i := 1) rfl) rfl

theorem gw_1222 : Cond.methodLink "CollationerLaw" (218 : Nat) ({ cls := "CollationerLaw", name := "compare", desc := "(LCollationer;IIII[J)I" } : Jvm.MethodName) ∈ mGd := lk_6 (List.mem_of_getElem? (i := 22) rfl) rfl

theorem gw_1223 : Cond.static ({ cls := "CollationerLaw", name := "compare", desc := "(LCollationer;IIII[J)I" } : Jvm.MethodName) ∈ mGd := lk_6 (List.mem_of_getElem? (i := 23) rfl) rfl

theorem gw_1224 : Cond.codeWith ({ cls := "CollationerLaw", name := "compare", desc := "(LCollationer;IIII[J)I" } : Jvm.MethodName) method_26_code (7 : Nat) (Option.some FieldType.int) [((0 : Nat), (14 : Nat), (17 : Nat), (13 : Nat)), ((0 : Nat), (14 : Nat), (21 : Nat), (32 : Nat))] ∈ mGd := lk_6 (List.mem_of_getElem? (i := 24) rfl) rfl

theorem gw_1925 : Cond.methodLink "CollationerLaw" (220 : Nat) ({ cls := "CollationerModel", name := "compare", desc := "(IIII)I" } : Jvm.MethodName) ∈ mGd := lk_9 (List.mem_of_getElem? (i := 5) rfl) rfl

theorem gw_1926 : Cond.instanceMethod ({ cls := "CollationerModel", name := "compare", desc := "(IIII)I" } : Jvm.MethodName) ∈ mGd := lk_9 (List.mem_of_getElem? (i := 6) rfl) rfl

theorem gw_1927 : Cond.selects "CollationerModel" ({ cls := "CollationerModel", name := "compare", desc := "(IIII)I" } : Jvm.MethodName) ({ cls := "CollationerModel", name := "compare", desc := "(IIII)I" } : Jvm.MethodName) ∈ mGd := lk_9 (List.mem_of_getElem? (i := 7) rfl) rfl

theorem gw_1928 : Cond.code ({ cls := "CollationerModel", name := "compare", desc := "(IIII)I" } : Jvm.MethodName) prog_13_method_69_code (5 : Nat) (Option.some FieldType.int) ∈ mGd := lk_9 (List.mem_of_getElem? (i := 8) rfl) rfl

theorem gw_1235 : Cond.methodLink "CollationerLaw" (221 : Nat) ({ cls := "CollationerLaw", name := "compareByLevels", desc := "(LCollationer;IIII[J)I" } : Jvm.MethodName) ∈ mGd := lk_6 (List.mem_of_getElem? (i := 35) rfl) rfl

theorem gw_1236 : Cond.static ({ cls := "CollationerLaw", name := "compareByLevels", desc := "(LCollationer;IIII[J)I" } : Jvm.MethodName) ∈ mGd := lk_6 (List.mem_of_getElem? (i := 36) rfl) rfl

theorem gw_1237 : Cond.codeWith ({ cls := "CollationerLaw", name := "compareByLevels", desc := "(LCollationer;IIII[J)I" } : Jvm.MethodName) method_27_code (7 : Nat) (Option.some FieldType.int) [((0 : Nat), (14 : Nat), (17 : Nat), (13 : Nat)), ((0 : Nat), (14 : Nat), (21 : Nat), (32 : Nat))] ∈ mGd := lk_6 (List.mem_of_getElem? (i := 37) rfl) rfl

theorem gw_1937 : Cond.methodLink "CollationerLaw" (223 : Nat) ({ cls := "CollationerModel", name := "compareByLevels", desc := "(IIII)I" } : Jvm.MethodName) ∈ mGd := lk_9 (List.mem_of_getElem? (i := 17) rfl) rfl

theorem gw_1938 : Cond.instanceMethod ({ cls := "CollationerModel", name := "compareByLevels", desc := "(IIII)I" } : Jvm.MethodName) ∈ mGd := lk_9 (List.mem_of_getElem? (i := 18) rfl) rfl

theorem gw_1939 : Cond.selects "CollationerModel" ({ cls := "CollationerModel", name := "compareByLevels", desc := "(IIII)I" } : Jvm.MethodName) ({ cls := "CollationerModel", name := "compareByLevels", desc := "(IIII)I" } : Jvm.MethodName) ∈ mGd := lk_9 (List.mem_of_getElem? (i := 19) rfl) rfl

theorem gw_1940 : Cond.code ({ cls := "CollationerModel", name := "compareByLevels", desc := "(IIII)I" } : Jvm.MethodName) prog_13_method_70_code (5 : Nat) (Option.some FieldType.int) ∈ mGd := lk_9 (List.mem_of_getElem? (i := 20) rfl) rfl

theorem gw_1246 : Cond.methodLink "CollationerLaw" (224 : Nat) ({ cls := "CollationerLaw", name := "find", desc := "(LCollationer;IIIII[J)I" } : Jvm.MethodName) ∈ mGd := lk_6 (List.mem_of_getElem? (i := 46) rfl) rfl

theorem gw_1247 : Cond.static ({ cls := "CollationerLaw", name := "find", desc := "(LCollationer;IIIII[J)I" } : Jvm.MethodName) ∈ mGd := lk_6 (List.mem_of_getElem? (i := 47) rfl) rfl

theorem gw_1248 : Cond.codeWith ({ cls := "CollationerLaw", name := "find", desc := "(LCollationer;IIIII[J)I" } : Jvm.MethodName) method_28_code (8 : Nat) (Option.some FieldType.int) [((0 : Nat), (16 : Nat), (19 : Nat), (13 : Nat)), ((0 : Nat), (16 : Nat), (23 : Nat), (32 : Nat))] ∈ mGd := lk_6 (List.mem_of_getElem? (i := 48) rfl) rfl

theorem gw_1941 : Cond.methodLink "CollationerLaw" (227 : Nat) ({ cls := "CollationerModel", name := "find", desc := "(IIIII)I" } : Jvm.MethodName) ∈ mGd := lk_9 (List.mem_of_getElem? (i := 21) rfl) rfl

theorem gw_1942 : Cond.instanceMethod ({ cls := "CollationerModel", name := "find", desc := "(IIIII)I" } : Jvm.MethodName) ∈ mGd := lk_9 (List.mem_of_getElem? (i := 22) rfl) rfl

theorem gw_1943 : Cond.selects "CollationerModel" ({ cls := "CollationerModel", name := "find", desc := "(IIIII)I" } : Jvm.MethodName) ({ cls := "CollationerModel", name := "find", desc := "(IIIII)I" } : Jvm.MethodName) ∈ mGd := lk_9 (List.mem_of_getElem? (i := 23) rfl) rfl

theorem gw_1944 : Cond.code ({ cls := "CollationerModel", name := "find", desc := "(IIIII)I" } : Jvm.MethodName) prog_13_method_74_code (7 : Nat) (Option.some FieldType.int) ∈ mGd := lk_9 (List.mem_of_getElem? (i := 24) rfl) rfl

theorem gw_372 : Cond.methodLink "CollationerLaw" (228 : Nat) ({ cls := "Collationer", name := "entries", desc := "()I" } : Jvm.MethodName) ∈ mGd := lk_2 (List.mem_of_getElem? (i := 132) rfl) rfl

theorem gw_373 : Cond.instanceMethod ({ cls := "Collationer", name := "entries", desc := "()I" } : Jvm.MethodName) ∈ mGd := lk_2 (List.mem_of_getElem? (i := 133) rfl) rfl

theorem gw_374 : Cond.selects "Collationer" ({ cls := "Collationer", name := "entries", desc := "()I" } : Jvm.MethodName) ({ cls := "Collationer", name := "entries", desc := "()I" } : Jvm.MethodName) ∈ mGd := lk_2 (List.mem_of_getElem? (i := 134) rfl) rfl

theorem gw_375 : Cond.code ({ cls := "Collationer", name := "entries", desc := "()I" } : Jvm.MethodName) prog_1_method_30_code (1 : Nat) (Option.some FieldType.int) ∈ mGd := lk_2 (List.mem_of_getElem? (i := 135) rfl) rfl

theorem gw_1985 : Cond.methodLink "CollationerLaw" (231 : Nat) ({ cls := "CollationerModel", name := "entries", desc := "()I" } : Jvm.MethodName) ∈ mGd := lk_9 (List.mem_of_getElem? (i := 65) rfl) rfl

theorem gw_1986 : Cond.instanceMethod ({ cls := "CollationerModel", name := "entries", desc := "()I" } : Jvm.MethodName) ∈ mGd := lk_9 (List.mem_of_getElem? (i := 66) rfl) rfl

theorem gw_1987 : Cond.selects "CollationerModel" ({ cls := "CollationerModel", name := "entries", desc := "()I" } : Jvm.MethodName) ({ cls := "CollationerModel", name := "entries", desc := "()I" } : Jvm.MethodName) ∈ mGd := lk_9 (List.mem_of_getElem? (i := 67) rfl) rfl

theorem gw_1988 : Cond.code ({ cls := "CollationerModel", name := "entries", desc := "()I" } : Jvm.MethodName) prog_13_method_82_code (1 : Nat) (Option.some FieldType.int) ∈ mGd := lk_9 (List.mem_of_getElem? (i := 68) rfl) rfl

theorem gw_1268 : Cond.methodLink "CollationerLaw" (232 : Nat) ({ cls := "CollationerLaw", name := "entryAt", desc := "(LCollationer;II[J)I" } : Jvm.MethodName) ∈ mGd := lk_6 (List.mem_of_getElem? (i := 68) rfl) rfl

theorem gw_1269 : Cond.static ({ cls := "CollationerLaw", name := "entryAt", desc := "(LCollationer;II[J)I" } : Jvm.MethodName) ∈ mGd := lk_6 (List.mem_of_getElem? (i := 69) rfl) rfl

theorem gw_1270 : Cond.codeWith ({ cls := "CollationerLaw", name := "entryAt", desc := "(LCollationer;II[J)I" } : Jvm.MethodName) method_29_code (5 : Nat) (Option.some FieldType.int) [((0 : Nat), (10 : Nat), (13 : Nat), (13 : Nat))] ∈ mGd := lk_6 (List.mem_of_getElem? (i := 70) rfl) rfl

theorem gw_1989 : Cond.methodLink "CollationerLaw" (234 : Nat) ({ cls := "CollationerModel", name := "entryAt", desc := "(II)I" } : Jvm.MethodName) ∈ mGd := lk_9 (List.mem_of_getElem? (i := 69) rfl) rfl

theorem gw_1990 : Cond.instanceMethod ({ cls := "CollationerModel", name := "entryAt", desc := "(II)I" } : Jvm.MethodName) ∈ mGd := lk_9 (List.mem_of_getElem? (i := 70) rfl) rfl

theorem gw_1991 : Cond.selects "CollationerModel" ({ cls := "CollationerModel", name := "entryAt", desc := "(II)I" } : Jvm.MethodName) ({ cls := "CollationerModel", name := "entryAt", desc := "(II)I" } : Jvm.MethodName) ∈ mGd := lk_9 (List.mem_of_getElem? (i := 71) rfl) rfl

theorem gw_1992 : Cond.code ({ cls := "CollationerModel", name := "entryAt", desc := "(II)I" } : Jvm.MethodName) prog_13_method_91_code (4 : Nat) (Option.some FieldType.int) ∈ mGd := lk_9 (List.mem_of_getElem? (i := 72) rfl) rfl

theorem gw_1276 : Cond.methodLink "CollationerLaw" (235 : Nat) ({ cls := "CollationerLaw", name := "beneath", desc := "(LCollationer;II[J)I" } : Jvm.MethodName) ∈ mGd := lk_6 (List.mem_of_getElem? (i := 76) rfl) rfl

theorem gw_1277 : Cond.static ({ cls := "CollationerLaw", name := "beneath", desc := "(LCollationer;II[J)I" } : Jvm.MethodName) ∈ mGd := lk_6 (List.mem_of_getElem? (i := 77) rfl) rfl

theorem gw_1278 : Cond.codeWith ({ cls := "CollationerLaw", name := "beneath", desc := "(LCollationer;II[J)I" } : Jvm.MethodName) method_30_code (5 : Nat) (Option.some FieldType.int) [((0 : Nat), (10 : Nat), (13 : Nat), (13 : Nat))] ∈ mGd := lk_6 (List.mem_of_getElem? (i := 78) rfl) rfl

theorem gw_2000 : Cond.methodLink "CollationerLaw" (237 : Nat) ({ cls := "CollationerModel", name := "beneath", desc := "(II)I" } : Jvm.MethodName) ∈ mGd := lk_9 (List.mem_of_getElem? (i := 80) rfl) rfl

theorem gw_2001 : Cond.instanceMethod ({ cls := "CollationerModel", name := "beneath", desc := "(II)I" } : Jvm.MethodName) ∈ mGd := lk_9 (List.mem_of_getElem? (i := 81) rfl) rfl

theorem gw_2002 : Cond.selects "CollationerModel" ({ cls := "CollationerModel", name := "beneath", desc := "(II)I" } : Jvm.MethodName) ({ cls := "CollationerModel", name := "beneath", desc := "(II)I" } : Jvm.MethodName) ∈ mGd := lk_9 (List.mem_of_getElem? (i := 82) rfl) rfl

theorem gw_2003 : Cond.code ({ cls := "CollationerModel", name := "beneath", desc := "(II)I" } : Jvm.MethodName) prog_13_method_95_code (3 : Nat) (Option.some FieldType.int) ∈ mGd := lk_9 (List.mem_of_getElem? (i := 83) rfl) rfl

theorem gw_1310 : Cond.methodLink "CollationerLaw" (238 : Nat) ({ cls := "CollationerLaw", name := "locatorAt", desc := "(LCollationer;II[J)I" } : Jvm.MethodName) ∈ mGd := lk_6 (List.mem_of_getElem? (i := 110) rfl) rfl

theorem gw_1311 : Cond.static ({ cls := "CollationerLaw", name := "locatorAt", desc := "(LCollationer;II[J)I" } : Jvm.MethodName) ∈ mGd := lk_6 (List.mem_of_getElem? (i := 111) rfl) rfl

theorem gw_1312 : Cond.codeWith ({ cls := "CollationerLaw", name := "locatorAt", desc := "(LCollationer;II[J)I" } : Jvm.MethodName) method_31_code (5 : Nat) (Option.some FieldType.int) [((0 : Nat), (10 : Nat), (13 : Nat), (13 : Nat))] ∈ mGd := lk_6 (List.mem_of_getElem? (i := 112) rfl) rfl

theorem gw_2015 : Cond.methodLink "CollationerLaw" (240 : Nat) ({ cls := "CollationerModel", name := "locatorAt", desc := "(II)I" } : Jvm.MethodName) ∈ mGd := lk_9 (List.mem_of_getElem? (i := 95) rfl) rfl

theorem gw_2016 : Cond.instanceMethod ({ cls := "CollationerModel", name := "locatorAt", desc := "(II)I" } : Jvm.MethodName) ∈ mGd := lk_9 (List.mem_of_getElem? (i := 96) rfl) rfl

theorem gw_2017 : Cond.selects "CollationerModel" ({ cls := "CollationerModel", name := "locatorAt", desc := "(II)I" } : Jvm.MethodName) ({ cls := "CollationerModel", name := "locatorAt", desc := "(II)I" } : Jvm.MethodName) ∈ mGd := lk_9 (List.mem_of_getElem? (i := 97) rfl) rfl

theorem gw_2018 : Cond.code ({ cls := "CollationerModel", name := "locatorAt", desc := "(II)I" } : Jvm.MethodName) prog_13_method_100_code (3 : Nat) (Option.some FieldType.int) ∈ mGd := lk_9 (List.mem_of_getElem? (i := 98) rfl) rfl

theorem gw_1343 : Cond.methodLink "CollationerLaw" (241 : Nat) ({ cls := "CollationerLaw", name := "leads", desc := "(LCollationer;I[J)I" } : Jvm.MethodName) ∈ mGd := lk_6 (List.mem_of_getElem? (i := 143) rfl) rfl

theorem gw_1344 : Cond.static ({ cls := "CollationerLaw", name := "leads", desc := "(LCollationer;I[J)I" } : Jvm.MethodName) ∈ mGd := lk_6 (List.mem_of_getElem? (i := 144) rfl) rfl

theorem gw_1345 : Cond.codeWith ({ cls := "CollationerLaw", name := "leads", desc := "(LCollationer;I[J)I" } : Jvm.MethodName) method_32_code (4 : Nat) (Option.some FieldType.int) [((0 : Nat), (9 : Nat), (12 : Nat), (13 : Nat))] ∈ mGd := lk_6 (List.mem_of_getElem? (i := 145) rfl) rfl

theorem gw_2036 : Cond.methodLink "CollationerLaw" (243 : Nat) ({ cls := "CollationerModel", name := "leads", desc := "(I)I" } : Jvm.MethodName) ∈ mGd := lk_9 (List.mem_of_getElem? (i := 116) rfl) rfl

theorem gw_2037 : Cond.instanceMethod ({ cls := "CollationerModel", name := "leads", desc := "(I)I" } : Jvm.MethodName) ∈ mGd := lk_9 (List.mem_of_getElem? (i := 117) rfl) rfl

theorem gw_2038 : Cond.selects "CollationerModel" ({ cls := "CollationerModel", name := "leads", desc := "(I)I" } : Jvm.MethodName) ({ cls := "CollationerModel", name := "leads", desc := "(I)I" } : Jvm.MethodName) ∈ mGd := lk_9 (List.mem_of_getElem? (i := 118) rfl) rfl

theorem gw_2039 : Cond.code ({ cls := "CollationerModel", name := "leads", desc := "(I)I" } : Jvm.MethodName) prog_13_method_103_code (2 : Nat) (Option.some FieldType.int) ∈ mGd := lk_9 (List.mem_of_getElem? (i := 119) rfl) rfl

theorem gw_376 : Cond.methodLink "CollationerLaw" (244 : Nat) ({ cls := "Collationer", name := "dead", desc := "()I" } : Jvm.MethodName) ∈ mGd := lk_2 (List.mem_of_getElem? (i := 136) rfl) rfl

theorem gw_377 : Cond.instanceMethod ({ cls := "Collationer", name := "dead", desc := "()I" } : Jvm.MethodName) ∈ mGd := lk_2 (List.mem_of_getElem? (i := 137) rfl) rfl

theorem gw_378 : Cond.selects "Collationer" ({ cls := "Collationer", name := "dead", desc := "()I" } : Jvm.MethodName) ({ cls := "Collationer", name := "dead", desc := "()I" } : Jvm.MethodName) ∈ mGd := lk_2 (List.mem_of_getElem? (i := 138) rfl) rfl

theorem gw_379 : Cond.code ({ cls := "Collationer", name := "dead", desc := "()I" } : Jvm.MethodName) prog_1_method_35_code (3 : Nat) (Option.some FieldType.int) ∈ mGd := lk_2 (List.mem_of_getElem? (i := 139) rfl) rfl

theorem gw_2048 : Cond.methodLink "CollationerLaw" (247 : Nat) ({ cls := "CollationerModel", name := "dead", desc := "()I" } : Jvm.MethodName) ∈ mGd := lk_9 (List.mem_of_getElem? (i := 128) rfl) rfl

theorem gw_2049 : Cond.instanceMethod ({ cls := "CollationerModel", name := "dead", desc := "()I" } : Jvm.MethodName) ∈ mGd := lk_9 (List.mem_of_getElem? (i := 129) rfl) rfl

theorem gw_2050 : Cond.selects "CollationerModel" ({ cls := "CollationerModel", name := "dead", desc := "()I" } : Jvm.MethodName) ({ cls := "CollationerModel", name := "dead", desc := "()I" } : Jvm.MethodName) ∈ mGd := lk_9 (List.mem_of_getElem? (i := 130) rfl) rfl

theorem gw_2051 : Cond.code ({ cls := "CollationerModel", name := "dead", desc := "()I" } : Jvm.MethodName) prog_13_method_104_code (4 : Nat) (Option.some FieldType.int) ∈ mGd := lk_9 (List.mem_of_getElem? (i := 131) rfl) rfl

theorem gw_1350 : Cond.methodLink "CollationerLaw" (248 : Nat) ({ cls := "CollationerLaw", name := "moved", desc := "(LCollationer;I[J)I" } : Jvm.MethodName) ∈ mGd := lk_6 (List.mem_of_getElem? (i := 150) rfl) rfl

theorem gw_1351 : Cond.static ({ cls := "CollationerLaw", name := "moved", desc := "(LCollationer;I[J)I" } : Jvm.MethodName) ∈ mGd := lk_6 (List.mem_of_getElem? (i := 151) rfl) rfl

theorem gw_1352 : Cond.codeWith ({ cls := "CollationerLaw", name := "moved", desc := "(LCollationer;I[J)I" } : Jvm.MethodName) method_33_code (4 : Nat) (Option.some FieldType.int) [((0 : Nat), (9 : Nat), (12 : Nat), (13 : Nat))] ∈ mGd := lk_6 (List.mem_of_getElem? (i := 152) rfl) rfl

theorem gw_1996 : Cond.methodLink "CollationerLaw" (250 : Nat) ({ cls := "CollationerModel", name := "moved", desc := "(I)I" } : Jvm.MethodName) ∈ mGd := lk_9 (List.mem_of_getElem? (i := 76) rfl) rfl

theorem gw_1997 : Cond.instanceMethod ({ cls := "CollationerModel", name := "moved", desc := "(I)I" } : Jvm.MethodName) ∈ mGd := lk_9 (List.mem_of_getElem? (i := 77) rfl) rfl

theorem gw_1998 : Cond.selects "CollationerModel" ({ cls := "CollationerModel", name := "moved", desc := "(I)I" } : Jvm.MethodName) ({ cls := "CollationerModel", name := "moved", desc := "(I)I" } : Jvm.MethodName) ∈ mGd := lk_9 (List.mem_of_getElem? (i := 78) rfl) rfl

theorem gw_1999 : Cond.code ({ cls := "CollationerModel", name := "moved", desc := "(I)I" } : Jvm.MethodName) prog_13_method_92_code (4 : Nat) (Option.some FieldType.int) ∈ mGd := lk_9 (List.mem_of_getElem? (i := 79) rfl) rfl

theorem gw_1362 : Cond.methodLink "CollationerLaw" (251 : Nat) ({ cls := "CollationerLaw", name := "columnOf", desc := "(LCollationer;II[J)I" } : Jvm.MethodName) ∈ mGd := lk_6 (List.mem_of_getElem? (i := 162) rfl) rfl

theorem gw_1363 : Cond.static ({ cls := "CollationerLaw", name := "columnOf", desc := "(LCollationer;II[J)I" } : Jvm.MethodName) ∈ mGd := lk_6 (List.mem_of_getElem? (i := 163) rfl) rfl

theorem gw_1364 : Cond.codeWith ({ cls := "CollationerLaw", name := "columnOf", desc := "(LCollationer;II[J)I" } : Jvm.MethodName) method_34_code (5 : Nat) (Option.some FieldType.int) [((0 : Nat), (10 : Nat), (13 : Nat), (13 : Nat))] ∈ mGd := lk_6 (List.mem_of_getElem? (i := 164) rfl) rfl

theorem gw_2104 : Cond.methodLink "CollationerLaw" (253 : Nat) ({ cls := "CollationerModel", name := "columnOf", desc := "(II)I" } : Jvm.MethodName) ∈ mGd := lk_9 (List.mem_of_getElem? (i := 184) rfl) rfl

theorem gw_2105 : Cond.instanceMethod ({ cls := "CollationerModel", name := "columnOf", desc := "(II)I" } : Jvm.MethodName) ∈ mGd := lk_9 (List.mem_of_getElem? (i := 185) rfl) rfl

theorem gw_2106 : Cond.selects "CollationerModel" ({ cls := "CollationerModel", name := "columnOf", desc := "(II)I" } : Jvm.MethodName) ({ cls := "CollationerModel", name := "columnOf", desc := "(II)I" } : Jvm.MethodName) ∈ mGd := lk_9 (List.mem_of_getElem? (i := 186) rfl) rfl

theorem gw_2107 : Cond.code ({ cls := "CollationerModel", name := "columnOf", desc := "(II)I" } : Jvm.MethodName) prog_13_method_120_code (3 : Nat) (Option.some FieldType.int) ∈ mGd := lk_9 (List.mem_of_getElem? (i := 187) rfl) rfl

theorem gw_1396 : Cond.methodLink "CollationerLaw" (254 : Nat) ({ cls := "CollationerLaw", name := "lineAt", desc := "(LCollationer;IZI[J)I" } : Jvm.MethodName) ∈ mGd := lk_6 (List.mem_of_getElem? (i := 196) rfl) rfl

theorem gw_1397 : Cond.static ({ cls := "CollationerLaw", name := "lineAt", desc := "(LCollationer;IZI[J)I" } : Jvm.MethodName) ∈ mGd := lk_6 (List.mem_of_getElem? (i := 197) rfl) rfl

theorem gw_1398 : Cond.codeWith ({ cls := "CollationerLaw", name := "lineAt", desc := "(LCollationer;IZI[J)I" } : Jvm.MethodName) method_35_code (6 : Nat) (Option.some FieldType.int) [((0 : Nat), (12 : Nat), (15 : Nat), (13 : Nat))] ∈ mGd := lk_6 (List.mem_of_getElem? (i := 198) rfl) rfl

theorem gw_2072 : Cond.methodLink "CollationerLaw" (256 : Nat) ({ cls := "CollationerModel", name := "lineAt", desc := "(IZI)I" } : Jvm.MethodName) ∈ mGd := lk_9 (List.mem_of_getElem? (i := 152) rfl) rfl

theorem gw_2073 : Cond.instanceMethod ({ cls := "CollationerModel", name := "lineAt", desc := "(IZI)I" } : Jvm.MethodName) ∈ mGd := lk_9 (List.mem_of_getElem? (i := 153) rfl) rfl

theorem gw_2074 : Cond.selects "CollationerModel" ({ cls := "CollationerModel", name := "lineAt", desc := "(IZI)I" } : Jvm.MethodName) ({ cls := "CollationerModel", name := "lineAt", desc := "(IZI)I" } : Jvm.MethodName) ∈ mGd := lk_9 (List.mem_of_getElem? (i := 154) rfl) rfl

theorem gw_2075 : Cond.code ({ cls := "CollationerModel", name := "lineAt", desc := "(IZI)I" } : Jvm.MethodName) prog_13_method_112_code (7 : Nat) (Option.some FieldType.int) ∈ mGd := lk_9 (List.mem_of_getElem? (i := 155) rfl) rfl

theorem gw_213 : Cond.laysFinal "Collationer$Collator" "Collationer$Collator" "elements" "LCollationer$Elements;" ∈ mGd := lk_1 (List.mem_of_getElem? (i := 213) rfl) rfl

theorem gw_215 : Cond.laysFinal "Collationer$Collator" "Collationer$Collator" "partElements" "LCollationer$Elements;" ∈ mGd := lk_1 (List.mem_of_getElem? (i := 215) rfl) rfl

theorem gw_217 : Cond.laysFinal "Collationer$Collator" "Collationer$Collator" "weights" "LCollationer$Row;" ∈ mGd := lk_1 (List.mem_of_getElem? (i := 217) rfl) rfl

theorem gw_219 : Cond.laysFinal "Collationer$Collator" "Collationer$Collator" "otherWeights" "LCollationer$Row;" ∈ mGd := lk_1 (List.mem_of_getElem? (i := 219) rfl) rfl

theorem gw_221 : Cond.laysFinal "Collationer$Collator" "Collationer$Collator" "bytes" "LCollationer$Row;" ∈ mGd := lk_1 (List.mem_of_getElem? (i := 221) rfl) rfl

theorem gw_223 : Cond.laysFinal "Collationer$Collator" "Collationer$Collator" "otherBytes" "LCollationer$Row;" ∈ mGd := lk_1 (List.mem_of_getElem? (i := 223) rfl) rfl

theorem gw_225 : Cond.laysFinal "Collationer$Collator" "Collationer$Collator" "part" "LCollationer$Row;" ∈ mGd := lk_1 (List.mem_of_getElem? (i := 225) rfl) rfl

theorem gw_38 : Cond.laysFinal "Collationer$Compositions" "Collationer$Compositions" "bases" "[I" ∈ mGd := lk_1 (List.mem_of_getElem? (i := 38) rfl) rfl

theorem gw_40 : Cond.laysFinal "Collationer$Compositions" "Collationer$Compositions" "marks" "[I" ∈ mGd := lk_1 (List.mem_of_getElem? (i := 40) rfl) rfl

theorem gw_42 : Cond.lays "Collationer$Compositions" "Collationer$Compositions" "count" "I" ∈ mGd := lk_1 (List.mem_of_getElem? (i := 42) rfl) rfl

theorem gw_149 : Cond.laysFinal "Collationer$Corpus" "Collationer$Corpus" "wordTexts" "LCollationer$Row;" ∈ mGd := lk_1 (List.mem_of_getElem? (i := 149) rfl) rfl

theorem gw_151 : Cond.laysFinal "Collationer$Corpus" "Collationer$Corpus" "wordReads" "LCollationer$Row;" ∈ mGd := lk_1 (List.mem_of_getElem? (i := 151) rfl) rfl

theorem gw_153 : Cond.laysFinal "Collationer$Corpus" "Collationer$Corpus" "readings" "[LCollationer$Row;" ∈ mGd := lk_1 (List.mem_of_getElem? (i := 153) rfl) rfl

theorem gw_191 : Cond.laysFinal "Collationer$Elements" "Collationer$Elements" "firsts" "LCollationer$Row;" ∈ mGd := lk_1 (List.mem_of_getElem? (i := 191) rfl) rfl

theorem gw_193 : Cond.laysFinal "Collationer$Elements" "Collationer$Elements" "seconds" "LCollationer$Row;" ∈ mGd := lk_1 (List.mem_of_getElem? (i := 193) rfl) rfl

theorem gw_195 : Cond.laysFinal "Collationer$Elements" "Collationer$Elements" "thirds" "LCollationer$Row;" ∈ mGd := lk_1 (List.mem_of_getElem? (i := 195) rfl) rfl

theorem gw_197 : Cond.laysFinal "Collationer$Elements" "Collationer$Elements" "kinds" "LCollationer$Row;" ∈ mGd := lk_1 (List.mem_of_getElem? (i := 197) rfl) rfl

theorem gw_199 : Cond.laysFinal "Collationer$Elements" "Collationer$Elements" "takers" "LCollationer$Row;" ∈ mGd := lk_1 (List.mem_of_getElem? (i := 199) rfl) rfl

theorem gw_201 : Cond.lays "Collationer$Elements" "Collationer$Elements" "kind" "I" ∈ mGd := lk_1 (List.mem_of_getElem? (i := 201) rfl) rfl

theorem gw_282 : Cond.lays "Collationer$Entry" "Collationer$Entry" "textNumber" "I" ∈ mGd := lk_2 (List.mem_of_getElem? (i := 42) rfl) rfl

theorem gw_284 : Cond.lays "Collationer$Entry" "Collationer$Entry" "parent" "I" ∈ mGd := lk_2 (List.mem_of_getElem? (i := 44) rfl) rfl

theorem gw_286 : Cond.lays "Collationer$Entry" "Collationer$Entry" "indexSet" "I" ∈ mGd := lk_2 (List.mem_of_getElem? (i := 46) rfl) rfl

theorem gw_288 : Cond.lays "Collationer$Entry" "Collationer$Entry" "formKind" "I" ∈ mGd := lk_2 (List.mem_of_getElem? (i := 48) rfl) rfl

theorem gw_290 : Cond.lays "Collationer$Entry" "Collationer$Entry" "formSigns" "I" ∈ mGd := lk_2 (List.mem_of_getElem? (i := 50) rfl) rfl

theorem gw_292 : Cond.laysFinal "Collationer$Entry" "Collationer$Entry" "locators" "LCollationer$Row;" ∈ mGd := lk_2 (List.mem_of_getElem? (i := 52) rfl) rfl

theorem gw_294 : Cond.laysFinal "Collationer$Entry" "Collationer$Entry" "staying" "LCollationer$Row;" ∈ mGd := lk_2 (List.mem_of_getElem? (i := 54) rfl) rfl

theorem gw_296 : Cond.lays "Collationer$Entry" "Collationer$Entry" "seen" "I" ∈ mGd := lk_2 (List.mem_of_getElem? (i := 56) rfl) rfl

theorem gw_298 : Cond.lays "Collationer$Entry" "Collationer$Entry" "seenAlso" "I" ∈ mGd := lk_2 (List.mem_of_getElem? (i := 58) rfl) rfl

theorem gw_239 : Cond.laysFinal "Collationer$Groups" "Collationer$Groups" "sorts" "LCollationer$Row;" ∈ mGd := lk_1 (List.mem_of_getElem? (i := 239) rfl) rfl

theorem gw_241 : Cond.laysFinal "Collationer$Groups" "Collationer$Groups" "firsts" "LCollationer$Row;" ∈ mGd := lk_2 (List.mem_of_getElem? (i := 1) rfl) rfl

theorem gw_243 : Cond.laysFinal "Collationer$Groups" "Collationer$Groups" "lasts" "LCollationer$Row;" ∈ mGd := lk_2 (List.mem_of_getElem? (i := 3) rfl) rfl

theorem gw_257 : Cond.laysFinal "Collationer$Index" "Collationer$Index" "order" "LCollationer$Row;" ∈ mGd := lk_2 (List.mem_of_getElem? (i := 17) rfl) rfl

theorem gw_259 : Cond.laysFinal "Collationer$Index" "Collationer$Index" "firstWeights" "LCollationer$Row;" ∈ mGd := lk_2 (List.mem_of_getElem? (i := 19) rfl) rfl

theorem gw_261 : Cond.laysFinal "Collationer$Index" "Collationer$Index" "before" "LCollationer$Row;" ∈ mGd := lk_2 (List.mem_of_getElem? (i := 21) rfl) rfl

theorem gw_263 : Cond.lays "Collationer$Index" "Collationer$Index" "isOrdered" "Z" ∈ mGd := lk_2 (List.mem_of_getElem? (i := 23) rfl) rfl

theorem gw_166 : Cond.laysFinal "Collationer$Pins" "Collationer$Pins" "pages" "LCollationer$Row;" ∈ mGd := lk_1 (List.mem_of_getElem? (i := 166) rfl) rfl

theorem gw_168 : Cond.laysFinal "Collationer$Pins" "Collationer$Pins" "nexts" "LCollationer$Row;" ∈ mGd := lk_1 (List.mem_of_getElem? (i := 168) rfl) rfl

theorem gw_57 : Cond.laysFinal "Collationer$Row" "Collationer$Row" "cells" "[I" ∈ mGd := lk_1 (List.mem_of_getElem? (i := 57) rfl) rfl

theorem gw_59 : Cond.lays "Collationer$Row" "Collationer$Row" "size" "I" ∈ mGd := lk_1 (List.mem_of_getElem? (i := 59) rfl) rfl

theorem gw_110 : Cond.laysFinal "Collationer$Tailoring" "Collationer$Tailoring" "items" "LCollationer$Row;" ∈ mGd := lk_1 (List.mem_of_getElem? (i := 110) rfl) rfl

theorem gw_112 : Cond.laysFinal "Collationer$Tailoring" "Collationer$Tailoring" "levels" "LCollationer$Row;" ∈ mGd := lk_1 (List.mem_of_getElem? (i := 112) rfl) rfl

theorem gw_114 : Cond.laysFinal "Collationer$Tailoring" "Collationer$Tailoring" "firsts" "LCollationer$Row;" ∈ mGd := lk_1 (List.mem_of_getElem? (i := 114) rfl) rfl

theorem gw_116 : Cond.laysFinal "Collationer$Tailoring" "Collationer$Tailoring" "seconds" "LCollationer$Row;" ∈ mGd := lk_1 (List.mem_of_getElem? (i := 116) rfl) rfl

theorem gw_118 : Cond.laysFinal "Collationer$Tailoring" "Collationer$Tailoring" "thirds" "LCollationer$Row;" ∈ mGd := lk_1 (List.mem_of_getElem? (i := 118) rfl) rfl

theorem gw_120 : Cond.laysFinal "Collationer$Tailoring" "Collationer$Tailoring" "severalItems" "LCollationer$Row;" ∈ mGd := lk_1 (List.mem_of_getElem? (i := 120) rfl) rfl

theorem gw_122 : Cond.laysFinal "Collationer$Tailoring" "Collationer$Tailoring" "severalSigns" "LCollationer$Row;" ∈ mGd := lk_1 (List.mem_of_getElem? (i := 122) rfl) rfl

theorem gw_124 : Cond.laysFinal "Collationer$Tailoring" "Collationer$Tailoring" "hows" "LCollationer$Row;" ∈ mGd := lk_1 (List.mem_of_getElem? (i := 124) rfl) rfl

theorem gw_126 : Cond.laysFinal "Collationer$Tailoring" "Collationer$Tailoring" "anchorCodes" "LCollationer$Row;" ∈ mGd := lk_1 (List.mem_of_getElem? (i := 126) rfl) rfl

theorem gw_128 : Cond.laysFinal "Collationer$Tailoring" "Collationer$Tailoring" "itemCodes" "LCollationer$Row;" ∈ mGd := lk_1 (List.mem_of_getElem? (i := 128) rfl) rfl

theorem gw_130 : Cond.laysFinal "Collationer$Tailoring" "Collationer$Tailoring" "options" "[Z" ∈ mGd := lk_1 (List.mem_of_getElem? (i := 130) rfl) rfl

theorem gw_321 : Cond.laysFinal "Collationer" "Collationer" "compositions" "LCollationer$Compositions;" ∈ mGd := lk_2 (List.mem_of_getElem? (i := 81) rfl) rfl

theorem gw_323 : Cond.laysFinal "Collationer" "Collationer" "draft" "LCollationer$Row;" ∈ mGd := lk_2 (List.mem_of_getElem? (i := 83) rfl) rfl

theorem gw_325 : Cond.laysFinal "Collationer" "Collationer" "ruleAnchor" "LCollationer$Row;" ∈ mGd := lk_2 (List.mem_of_getElem? (i := 85) rfl) rfl

theorem gw_327 : Cond.laysFinal "Collationer" "Collationer" "apartTexts" "[LCollationer$Row;" ∈ mGd := lk_2 (List.mem_of_getElem? (i := 87) rfl) rfl

theorem gw_329 : Cond.lays "Collationer" "Collationer" "textCount" "I" ∈ mGd := lk_2 (List.mem_of_getElem? (i := 89) rfl) rfl

theorem gw_331 : Cond.laysFinal "Collationer" "Collationer" "tailorings" "[LCollationer$Tailoring;" ∈ mGd := lk_2 (List.mem_of_getElem? (i := 91) rfl) rfl

theorem gw_333 : Cond.laysFinal "Collationer" "Collationer" "trial" "LCollationer$Tailoring;" ∈ mGd := lk_2 (List.mem_of_getElem? (i := 93) rfl) rfl

theorem gw_335 : Cond.laysFinal "Collationer" "Collationer" "isHeading" "[Z" ∈ mGd := lk_2 (List.mem_of_getElem? (i := 95) rfl) rfl

theorem gw_337 : Cond.laysFinal "Collationer" "Collationer" "allEntries" "[LCollationer$Entry;" ∈ mGd := lk_2 (List.mem_of_getElem? (i := 97) rfl) rfl

theorem gw_339 : Cond.lays "Collationer" "Collationer" "entryCount" "I" ∈ mGd := lk_2 (List.mem_of_getElem? (i := 99) rfl) rfl

theorem gw_341 : Cond.laysFinal "Collationer" "Collationer" "orders" "[LCollationer$Index;" ∈ mGd := lk_2 (List.mem_of_getElem? (i := 101) rfl) rfl

theorem gw_343 : Cond.laysFinal "Collationer" "Collationer" "corpus" "LCollationer$Corpus;" ∈ mGd := lk_2 (List.mem_of_getElem? (i := 103) rfl) rfl

theorem gw_345 : Cond.laysFinal "Collationer" "Collationer" "pins" "LCollationer$Pins;" ∈ mGd := lk_2 (List.mem_of_getElem? (i := 105) rfl) rfl

theorem gw_347 : Cond.lays "Collationer" "Collationer" "columnWidth" "I" ∈ mGd := lk_2 (List.mem_of_getElem? (i := 107) rfl) rfl

theorem gw_349 : Cond.lays "Collationer" "Collationer" "columnHeight" "I" ∈ mGd := lk_2 (List.mem_of_getElem? (i := 109) rfl) rfl

theorem gw_351 : Cond.laysFinal "Collationer" "Collationer" "collator" "LCollationer$Collator;" ∈ mGd := lk_2 (List.mem_of_getElem? (i := 111) rfl) rfl

theorem gw_353 : Cond.laysFinal "Collationer" "Collationer" "keys" "[LCollationer$Row;" ∈ mGd := lk_2 (List.mem_of_getElem? (i := 113) rfl) rfl

theorem gw_355 : Cond.laysFinal "Collationer" "Collationer" "signRow" "LCollationer$Row;" ∈ mGd := lk_2 (List.mem_of_getElem? (i := 115) rfl) rfl

theorem gw_357 : Cond.laysFinal "Collationer" "Collationer" "orderRow" "LCollationer$Row;" ∈ mGd := lk_2 (List.mem_of_getElem? (i := 117) rfl) rfl

theorem gw_359 : Cond.laysFinal "Collationer" "Collationer" "groups" "LCollationer$Groups;" ∈ mGd := lk_2 (List.mem_of_getElem? (i := 119) rfl) rfl

theorem gw_1518 : Cond.lays "CollationerModel" "CollationerModel" "thrown" "I" ∈ mGd := lk_7 (List.mem_of_getElem? (i := 78) rfl) rfl

theorem gw_1520 : Cond.laysFinal "CollationerModel" "CollationerModel" "base" "[I" ∈ mGd := lk_7 (List.mem_of_getElem? (i := 80) rfl) rfl

theorem gw_1522 : Cond.laysFinal "CollationerModel" "CollationerModel" "mark" "[I" ∈ mGd := lk_7 (List.mem_of_getElem? (i := 82) rfl) rfl

theorem gw_1524 : Cond.laysFinal "CollationerModel" "CollationerModel" "draft" "[I" ∈ mGd := lk_7 (List.mem_of_getElem? (i := 84) rfl) rfl

theorem gw_1526 : Cond.lays "CollationerModel" "CollationerModel" "drafted" "I" ∈ mGd := lk_7 (List.mem_of_getElem? (i := 86) rfl) rfl

theorem gw_1528 : Cond.laysFinal "CollationerModel" "CollationerModel" "anchor" "[I" ∈ mGd := lk_7 (List.mem_of_getElem? (i := 88) rfl) rfl

theorem gw_1530 : Cond.lays "CollationerModel" "CollationerModel" "anchored" "I" ∈ mGd := lk_7 (List.mem_of_getElem? (i := 90) rfl) rfl

theorem gw_1532 : Cond.laysFinal "CollationerModel" "CollationerModel" "drawn" "[I" ∈ mGd := lk_7 (List.mem_of_getElem? (i := 92) rfl) rfl

theorem gw_1534 : Cond.laysFinal "CollationerModel" "CollationerModel" "drawnLength" "[I" ∈ mGd := lk_7 (List.mem_of_getElem? (i := 94) rfl) rfl

theorem gw_1536 : Cond.laysFinal "CollationerModel" "CollationerModel" "apart" "[I" ∈ mGd := lk_7 (List.mem_of_getElem? (i := 96) rfl) rfl

theorem gw_1538 : Cond.laysFinal "CollationerModel" "CollationerModel" "apartLength" "[I" ∈ mGd := lk_7 (List.mem_of_getElem? (i := 98) rfl) rfl

theorem gw_1540 : Cond.lays "CollationerModel" "CollationerModel" "texts" "I" ∈ mGd := lk_7 (List.mem_of_getElem? (i := 100) rfl) rfl

theorem gw_1542 : Cond.laysFinal "CollationerModel" "CollationerModel" "row" "[I" ∈ mGd := lk_7 (List.mem_of_getElem? (i := 102) rfl) rfl

theorem gw_1544 : Cond.lays "CollationerModel" "CollationerModel" "length" "I" ∈ mGd := lk_7 (List.mem_of_getElem? (i := 104) rfl) rfl

theorem gw_1546 : Cond.laysFinal "CollationerModel" "CollationerModel" "item" "[I" ∈ mGd := lk_7 (List.mem_of_getElem? (i := 106) rfl) rfl

theorem gw_1548 : Cond.laysFinal "CollationerModel" "CollationerModel" "level" "[I" ∈ mGd := lk_7 (List.mem_of_getElem? (i := 108) rfl) rfl

theorem gw_1550 : Cond.laysFinal "CollationerModel" "CollationerModel" "items" "[I" ∈ mGd := lk_7 (List.mem_of_getElem? (i := 110) rfl) rfl

theorem gw_1552 : Cond.laysFinal "CollationerModel" "CollationerModel" "first" "[I" ∈ mGd := lk_7 (List.mem_of_getElem? (i := 112) rfl) rfl

theorem gw_1554 : Cond.laysFinal "CollationerModel" "CollationerModel" "second" "[I" ∈ mGd := lk_7 (List.mem_of_getElem? (i := 114) rfl) rfl

theorem gw_1556 : Cond.laysFinal "CollationerModel" "CollationerModel" "third" "[I" ∈ mGd := lk_7 (List.mem_of_getElem? (i := 116) rfl) rfl

theorem gw_1558 : Cond.laysFinal "CollationerModel" "CollationerModel" "several" "[I" ∈ mGd := lk_7 (List.mem_of_getElem? (i := 118) rfl) rfl

theorem gw_1560 : Cond.laysFinal "CollationerModel" "CollationerModel" "asSigns" "[I" ∈ mGd := lk_7 (List.mem_of_getElem? (i := 120) rfl) rfl

theorem gw_1562 : Cond.laysFinal "CollationerModel" "CollationerModel" "severals" "[I" ∈ mGd := lk_7 (List.mem_of_getElem? (i := 122) rfl) rfl

theorem gw_1564 : Cond.laysFinal "CollationerModel" "CollationerModel" "ruleAnchor" "[I" ∈ mGd := lk_7 (List.mem_of_getElem? (i := 124) rfl) rfl

theorem gw_1566 : Cond.laysFinal "CollationerModel" "CollationerModel" "ruleItem" "[I" ∈ mGd := lk_7 (List.mem_of_getElem? (i := 126) rfl) rfl

theorem gw_1568 : Cond.laysFinal "CollationerModel" "CollationerModel" "ruleHow" "[I" ∈ mGd := lk_7 (List.mem_of_getElem? (i := 128) rfl) rfl

theorem gw_1570 : Cond.laysFinal "CollationerModel" "CollationerModel" "rules" "[I" ∈ mGd := lk_7 (List.mem_of_getElem? (i := 130) rfl) rfl

theorem gw_1572 : Cond.laysFinal "CollationerModel" "CollationerModel" "isOn" "[Z" ∈ mGd := lk_7 (List.mem_of_getElem? (i := 132) rfl) rfl

theorem gw_1574 : Cond.laysFinal "CollationerModel" "CollationerModel" "one" "[I" ∈ mGd := lk_7 (List.mem_of_getElem? (i := 134) rfl) rfl

theorem gw_1576 : Cond.laysFinal "CollationerModel" "CollationerModel" "two" "[I" ∈ mGd := lk_7 (List.mem_of_getElem? (i := 136) rfl) rfl

theorem gw_1578 : Cond.laysFinal "CollationerModel" "CollationerModel" "three" "[I" ∈ mGd := lk_7 (List.mem_of_getElem? (i := 138) rfl) rfl

theorem gw_1580 : Cond.laysFinal "CollationerModel" "CollationerModel" "sort" "[I" ∈ mGd := lk_7 (List.mem_of_getElem? (i := 140) rfl) rfl

theorem gw_1582 : Cond.lays "CollationerModel" "CollationerModel" "elements" "I" ∈ mGd := lk_7 (List.mem_of_getElem? (i := 142) rfl) rfl

theorem gw_1584 : Cond.laysFinal "CollationerModel" "CollationerModel" "group" "[I" ∈ mGd := lk_7 (List.mem_of_getElem? (i := 144) rfl) rfl

theorem gw_1586 : Cond.lays "CollationerModel" "CollationerModel" "groups" "I" ∈ mGd := lk_7 (List.mem_of_getElem? (i := 146) rfl) rfl

theorem gw_1588 : Cond.laysFinal "CollationerModel" "CollationerModel" "weight" "[I" ∈ mGd := lk_7 (List.mem_of_getElem? (i := 148) rfl) rfl

theorem gw_1590 : Cond.lays "CollationerModel" "CollationerModel" "weights" "I" ∈ mGd := lk_7 (List.mem_of_getElem? (i := 150) rfl) rfl

theorem gw_1592 : Cond.laysFinal "CollationerModel" "CollationerModel" "key" "[I" ∈ mGd := lk_7 (List.mem_of_getElem? (i := 152) rfl) rfl

theorem gw_1594 : Cond.lays "CollationerModel" "CollationerModel" "keyLength" "I" ∈ mGd := lk_7 (List.mem_of_getElem? (i := 154) rfl) rfl

theorem gw_1596 : Cond.laysFinal "CollationerModel" "CollationerModel" "other" "[I" ∈ mGd := lk_7 (List.mem_of_getElem? (i := 156) rfl) rfl

theorem gw_1598 : Cond.lays "CollationerModel" "CollationerModel" "otherLength" "I" ∈ mGd := lk_7 (List.mem_of_getElem? (i := 158) rfl) rfl

theorem gw_1600 : Cond.laysFinal "CollationerModel" "CollationerModel" "isHeading" "[Z" ∈ mGd := lk_7 (List.mem_of_getElem? (i := 160) rfl) rfl

theorem gw_1602 : Cond.laysFinal "CollationerModel" "CollationerModel" "parent" "[I" ∈ mGd := lk_7 (List.mem_of_getElem? (i := 162) rfl) rfl

theorem gw_1604 : Cond.laysFinal "CollationerModel" "CollationerModel" "entryText" "[I" ∈ mGd := lk_7 (List.mem_of_getElem? (i := 164) rfl) rfl

theorem gw_1606 : Cond.laysFinal "CollationerModel" "CollationerModel" "indexes" "[I" ∈ mGd := lk_7 (List.mem_of_getElem? (i := 166) rfl) rfl

theorem gw_1608 : Cond.laysFinal "CollationerModel" "CollationerModel" "formKind" "[I" ∈ mGd := lk_7 (List.mem_of_getElem? (i := 168) rfl) rfl

theorem gw_1610 : Cond.laysFinal "CollationerModel" "CollationerModel" "formAt" "[I" ∈ mGd := lk_7 (List.mem_of_getElem? (i := 170) rfl) rfl

theorem gw_1612 : Cond.laysFinal "CollationerModel" "CollationerModel" "locator" "[I" ∈ mGd := lk_7 (List.mem_of_getElem? (i := 172) rfl) rfl

theorem gw_1614 : Cond.laysFinal "CollationerModel" "CollationerModel" "locators" "[I" ∈ mGd := lk_7 (List.mem_of_getElem? (i := 174) rfl) rfl

theorem gw_1616 : Cond.laysFinal "CollationerModel" "CollationerModel" "sees" "[I" ∈ mGd := lk_7 (List.mem_of_getElem? (i := 176) rfl) rfl

theorem gw_1618 : Cond.laysFinal "CollationerModel" "CollationerModel" "alsoSees" "[I" ∈ mGd := lk_7 (List.mem_of_getElem? (i := 178) rfl) rfl

theorem gw_1620 : Cond.lays "CollationerModel" "CollationerModel" "entries" "I" ∈ mGd := lk_7 (List.mem_of_getElem? (i := 180) rfl) rfl

theorem gw_1622 : Cond.laysFinal "CollationerModel" "CollationerModel" "order" "[I" ∈ mGd := lk_7 (List.mem_of_getElem? (i := 182) rfl) rfl

theorem gw_1624 : Cond.lays "CollationerModel" "CollationerModel" "ordered" "I" ∈ mGd := lk_7 (List.mem_of_getElem? (i := 184) rfl) rfl

theorem gw_1626 : Cond.laysFinal "CollationerModel" "CollationerModel" "before" "[I" ∈ mGd := lk_7 (List.mem_of_getElem? (i := 186) rfl) rfl

theorem gw_1628 : Cond.laysFinal "CollationerModel" "CollationerModel" "beforeMany" "[I" ∈ mGd := lk_7 (List.mem_of_getElem? (i := 188) rfl) rfl

theorem gw_1630 : Cond.laysFinal "CollationerModel" "CollationerModel" "group0" "[I" ∈ mGd := lk_7 (List.mem_of_getElem? (i := 190) rfl) rfl

theorem gw_1632 : Cond.lays "CollationerModel" "CollationerModel" "groups0" "I" ∈ mGd := lk_7 (List.mem_of_getElem? (i := 192) rfl) rfl

theorem gw_1634 : Cond.laysFinal "CollationerModel" "CollationerModel" "word" "[I" ∈ mGd := lk_7 (List.mem_of_getElem? (i := 194) rfl) rfl

theorem gw_1636 : Cond.laysFinal "CollationerModel" "CollationerModel" "readAs" "[I" ∈ mGd := lk_7 (List.mem_of_getElem? (i := 196) rfl) rfl

theorem gw_1638 : Cond.lays "CollationerModel" "CollationerModel" "words" "I" ∈ mGd := lk_7 (List.mem_of_getElem? (i := 198) rfl) rfl

theorem gw_1640 : Cond.laysFinal "CollationerModel" "CollationerModel" "reading" "[I" ∈ mGd := lk_7 (List.mem_of_getElem? (i := 200) rfl) rfl

theorem gw_1642 : Cond.laysFinal "CollationerModel" "CollationerModel" "readings" "[I" ∈ mGd := lk_7 (List.mem_of_getElem? (i := 202) rfl) rfl

theorem gw_1644 : Cond.laysFinal "CollationerModel" "CollationerModel" "lines" "[I" ∈ mGd := lk_7 (List.mem_of_getElem? (i := 204) rfl) rfl

theorem gw_1646 : Cond.lays "CollationerModel" "CollationerModel" "lined" "I" ∈ mGd := lk_7 (List.mem_of_getElem? (i := 206) rfl) rfl

theorem gw_1648 : Cond.laysFinal "CollationerModel" "CollationerModel" "pinPage" "[I" ∈ mGd := lk_7 (List.mem_of_getElem? (i := 208) rfl) rfl

theorem gw_1650 : Cond.laysFinal "CollationerModel" "CollationerModel" "pinNext" "[I" ∈ mGd := lk_7 (List.mem_of_getElem? (i := 210) rfl) rfl

theorem gw_1652 : Cond.lays "CollationerModel" "CollationerModel" "pins" "I" ∈ mGd := lk_7 (List.mem_of_getElem? (i := 212) rfl) rfl

theorem gw_1654 : Cond.lays "CollationerModel" "CollationerModel" "width" "I" ∈ mGd := lk_7 (List.mem_of_getElem? (i := 214) rfl) rfl

theorem gw_1656 : Cond.lays "CollationerModel" "CollationerModel" "height" "I" ∈ mGd := lk_7 (List.mem_of_getElem? (i := 216) rfl) rfl
