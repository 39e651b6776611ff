/-! The words that the program needs, by their places. -/

theorem lk_1 {w : Cond} (h : w ∈ tables_1_1) (g : goodWord w = true) : w ∈ mGd := List.mem_filter.mpr ⟨List.mem_append_right _ (show w ∈ tables_1 from List.mem_append_left _ h), g⟩

theorem ll_1 {w : Cond} (h : w ∈ tables_1_1) : w ∈ lw_tbl := List.mem_append_right _ (show w ∈ tables_1 from List.mem_append_left _ h)

theorem lk_2 {w : Cond} (h : w ∈ tables_1_2) (g : goodWord w = true) : w ∈ mGd := List.mem_filter.mpr ⟨List.mem_append_right _ (show w ∈ tables_1 from List.mem_append_right _ (List.mem_append_left _ h)), g⟩

theorem ll_2 {w : Cond} (h : w ∈ tables_1_2) : w ∈ lw_tbl := List.mem_append_right _ (show w ∈ tables_1 from List.mem_append_right _ (List.mem_append_left _ h))

theorem lk_3 {w : Cond} (h : w ∈ tables_1_3) (g : goodWord w = true) : w ∈ mGd := List.mem_filter.mpr ⟨List.mem_append_right _ (show w ∈ tables_1 from List.mem_append_right _ (List.mem_append_right _ (List.mem_append_left _ h))), g⟩

theorem ll_3 {w : Cond} (h : w ∈ tables_1_3) : w ∈ lw_tbl := List.mem_append_right _ (show w ∈ tables_1 from List.mem_append_right _ (List.mem_append_right _ (List.mem_append_left _ h)))

theorem lk_4 {w : Cond} (h : w ∈ tables_1_4) (g : goodWord w = true) : w ∈ mGd := List.mem_filter.mpr ⟨List.mem_append_right _ (show w ∈ tables_1 from List.mem_append_right _ (List.mem_append_right _ (List.mem_append_right _ (List.mem_append_left _ h)))), g⟩

theorem ll_4 {w : Cond} (h : w ∈ tables_1_4) : w ∈ lw_tbl := List.mem_append_right _ (show w ∈ tables_1 from List.mem_append_right _ (List.mem_append_right _ (List.mem_append_right _ (List.mem_append_left _ h))))

theorem lk_5 {w : Cond} (h : w ∈ tables_1_5) (g : goodWord w = true) : w ∈ mGd := List.mem_filter.mpr ⟨List.mem_append_right _ (show w ∈ tables_1 from List.mem_append_right _ (List.mem_append_right _ (List.mem_append_right _ (List.mem_append_right _ (List.mem_append_left _ h))))), g⟩

theorem ll_5 {w : Cond} (h : w ∈ tables_1_5) : w ∈ lw_tbl := List.mem_append_right _ (show w ∈ tables_1 from List.mem_append_right _ (List.mem_append_right _ (List.mem_append_right _ (List.mem_append_right _ (List.mem_append_left _ h)))))

theorem lk_6 {w : Cond} (h : w ∈ tables_1_6) (g : goodWord w = true) : w ∈ mGd := List.mem_filter.mpr ⟨List.mem_append_right _ (show w ∈ tables_1 from List.mem_append_right _ (List.mem_append_right _ (List.mem_append_right _ (List.mem_append_right _ (List.mem_append_right _ (h)))))), g⟩

theorem ll_6 {w : Cond} (h : w ∈ tables_1_6) : w ∈ lw_tbl := List.mem_append_right _ (show w ∈ tables_1 from List.mem_append_right _ (List.mem_append_right _ (List.mem_append_right _ (List.mem_append_right _ (List.mem_append_right _ (h))))))

theorem lp_1 {q : MethodName × Nat} (h : q ∈ lw_privs_1) : Cond.selects q.1.cls q.1 q.1 ∈ mGd := List.mem_filter.mpr ⟨List.mem_append_left _ (List.mem_map.mpr ⟨q, (show q ∈ lw_privs from List.mem_append_left _ h), rfl⟩), rfl⟩

theorem lp_2 {q : MethodName × Nat} (h : q ∈ lw_privs_2) : Cond.selects q.1.cls q.1 q.1 ∈ mGd := List.mem_filter.mpr ⟨List.mem_append_left _ (List.mem_map.mpr ⟨q, (show q ∈ lw_privs from List.mem_append_right _ (List.mem_append_left _ h)), rfl⟩), rfl⟩

theorem lp_3 {q : MethodName × Nat} (h : q ∈ lw_privs_3) : Cond.selects q.1.cls q.1 q.1 ∈ mGd := List.mem_filter.mpr ⟨List.mem_append_left _ (List.mem_map.mpr ⟨q, (show q ∈ lw_privs from List.mem_append_right _ (List.mem_append_right _ (h))), rfl⟩), rfl⟩

theorem gw_175 : Cond.methodLink "Collationer$Collator" (3 : Nat) ({ cls := "java/lang/Object", name := "<init>", desc := "()V" } : Jvm.MethodName) ∈ mGd := lk_1 (List.mem_of_getElem? (i := 175) rfl) rfl

theorem gw_26 : Cond.instanceMethod ({ cls := "java/lang/Object", name := "<init>", desc := "()V" } : Jvm.MethodName) ∈ mGd := lk_1 (List.mem_of_getElem? (i := 26) rfl) rfl

theorem gw_27 : Cond.code ({ cls := "java/lang/Object", name := "<init>", desc := "()V" } : Jvm.MethodName) object_method_1_code (1 : Nat) (Option.none : Option FieldType) ∈ mGd := lk_1 (List.mem_of_getElem? (i := 27) rfl) rfl

theorem gw_176 : Cond.classLink "Collationer$Collator" (9 : Nat) "Collationer$Elements" ∈ mGd := lk_1 (List.mem_of_getElem? (i := 176) rfl) rfl

theorem gw_9 : Cond.initialized "Collationer$Elements" ∈ mGd := lk_1 (List.mem_of_getElem? (i := 9) rfl) rfl

theorem gw_177 : Cond.instantiable "Collationer$Elements" (6 : Nat) ∈ mGd := lk_1 (List.mem_of_getElem? (i := 177) rfl) rfl

theorem gw_179 : Cond.instanceMethod ({ cls := "Collationer$Elements", name := "<init>", desc := "()V" } : Jvm.MethodName) ∈ mGd := lk_1 (List.mem_of_getElem? (i := 179) rfl) rfl

theorem gw_180 : Cond.code ({ cls := "Collationer$Elements", name := "<init>", desc := "()V" } : Jvm.MethodName) prog_5_method_1_code (1 : Nat) (Option.none : Option FieldType) ∈ mGd := lk_1 (List.mem_of_getElem? (i := 180) rfl) rfl

theorem gw_205 : Cond.fieldLink "Collationer$Collator" (12 : Nat) "Collationer$Collator" "elements" "LCollationer$Elements;" ∈ mGd := lk_1 (List.mem_of_getElem? (i := 205) rfl) rfl

theorem gw_206 : Cond.fieldLink "Collationer$Collator" (18 : Nat) "Collationer$Collator" "partElements" "LCollationer$Elements;" ∈ mGd := lk_1 (List.mem_of_getElem? (i := 206) rfl) rfl

theorem gw_203 : Cond.classLink "Collationer$Collator" (21 : Nat) "Collationer$Row" ∈ mGd := lk_1 (List.mem_of_getElem? (i := 203) rfl) rfl

theorem gw_3 : Cond.initialized "Collationer$Row" ∈ mGd := lk_1 (List.mem_of_getElem? (i := 3) rfl) rfl

theorem gw_46 : Cond.instantiable "Collationer$Row" (2 : Nat) ∈ mGd := lk_1 (List.mem_of_getElem? (i := 46) rfl) rfl

theorem gw_204 : Cond.methodLink "Collationer$Collator" (23 : Nat) ({ cls := "Collationer$Row", name := "<init>", desc := "(I)V" } : Jvm.MethodName) ∈ mGd := lk_1 (List.mem_of_getElem? (i := 204) rfl) rfl

theorem gw_48 : Cond.instanceMethod ({ cls := "Collationer$Row", name := "<init>", desc := "(I)V" } : Jvm.MethodName) ∈ mGd := lk_1 (List.mem_of_getElem? (i := 48) rfl) rfl

theorem gw_49 : Cond.code ({ cls := "Collationer$Row", name := "<init>", desc := "(I)V" } : Jvm.MethodName) prog_10_method_1_code (2 : Nat) (Option.none : Option FieldType) ∈ mGd := lk_1 (List.mem_of_getElem? (i := 49) rfl) rfl

theorem gw_207 : Cond.fieldLink "Collationer$Collator" (26 : Nat) "Collationer$Collator" "weights" "LCollationer$Row;" ∈ mGd := lk_1 (List.mem_of_getElem? (i := 207) rfl) rfl

theorem gw_208 : Cond.fieldLink "Collationer$Collator" (30 : Nat) "Collationer$Collator" "otherWeights" "LCollationer$Row;" ∈ mGd := lk_1 (List.mem_of_getElem? (i := 208) rfl) rfl

theorem gw_209 : Cond.fieldLink "Collationer$Collator" (33 : Nat) "Collationer$Collator" "bytes" "LCollationer$Row;" ∈ mGd := lk_1 (List.mem_of_getElem? (i := 209) rfl) rfl

theorem gw_210 : Cond.fieldLink "Collationer$Collator" (36 : Nat) "Collationer$Collator" "otherBytes" "LCollationer$Row;" ∈ mGd := lk_1 (List.mem_of_getElem? (i := 210) rfl) rfl

theorem gw_211 : Cond.fieldLink "Collationer$Collator" (39 : Nat) "Collationer$Collator" "part" "LCollationer$Row;" ∈ mGd := lk_1 (List.mem_of_getElem? (i := 211) rfl) rfl

theorem gw_507 : Cond.methodLink "Collationer$Collator" (42 : Nat) ({ cls := "Collationer$Elements", name := "gather", desc := "(LCollationer$Tailoring;LCollationer$Row;)V" } : Jvm.MethodName) ∈ mGd := lk_3 (List.mem_of_getElem? (i := 27) rfl) rfl

theorem gw_508 : Cond.instanceMethod ({ cls := "Collationer$Elements", name := "gather", desc := "(LCollationer$Tailoring;LCollationer$Row;)V" } : Jvm.MethodName) ∈ mGd := lk_3 (List.mem_of_getElem? (i := 28) rfl) rfl

theorem gw_509 : Cond.selects "Collationer$Elements" ({ cls := "Collationer$Elements", name := "gather", desc := "(LCollationer$Tailoring;LCollationer$Row;)V" } : Jvm.MethodName) ({ cls := "Collationer$Elements", name := "gather", desc := "(LCollationer$Tailoring;LCollationer$Row;)V" } : Jvm.MethodName) ∈ mGd := lk_3 (List.mem_of_getElem? (i := 29) rfl) rfl

theorem gw_510 : Cond.code ({ cls := "Collationer$Elements", name := "gather", desc := "(LCollationer$Tailoring;LCollationer$Row;)V" } : Jvm.MethodName) prog_5_method_2_code (5 : Nat) (Option.none : Option FieldType) ∈ mGd := lk_3 (List.mem_of_getElem? (i := 30) rfl) rfl

theorem gw_597 : Cond.methodLink "Collationer$Collator" (50 : Nat) ({ cls := "Collationer$Row", name := "clear", desc := "()V" } : Jvm.MethodName) ∈ mGd := lk_3 (List.mem_of_getElem? (i := 117) rfl) rfl

theorem gw_87 : Cond.instanceMethod ({ cls := "Collationer$Row", name := "clear", desc := "()V" } : Jvm.MethodName) ∈ mGd := lk_1 (List.mem_of_getElem? (i := 87) rfl) rfl

theorem gw_88 : Cond.selects "Collationer$Row" ({ cls := "Collationer$Row", name := "clear", desc := "()V" } : Jvm.MethodName) ({ cls := "Collationer$Row", name := "clear", desc := "()V" } : Jvm.MethodName) ∈ mGd := lk_1 (List.mem_of_getElem? (i := 88) rfl) rfl

theorem gw_89 : Cond.code ({ cls := "Collationer$Row", name := "clear", desc := "()V" } : Jvm.MethodName) prog_10_method_9_code (1 : Nat) (Option.none : Option FieldType) ∈ mGd := lk_1 (List.mem_of_getElem? (i := 89) rfl) rfl

theorem gw_598 : Cond.methodLink "Collationer$Collator" (53 : Nat) ({ cls := "Collationer$Elements", name := "putLevel", desc := "(LCollationer$Tailoring;ILCollationer$Row;)V" } : Jvm.MethodName) ∈ mGd := lk_3 (List.mem_of_getElem? (i := 118) rfl) rfl

theorem gw_599 : Cond.instanceMethod ({ cls := "Collationer$Elements", name := "putLevel", desc := "(LCollationer$Tailoring;ILCollationer$Row;)V" } : Jvm.MethodName) ∈ mGd := lk_3 (List.mem_of_getElem? (i := 119) rfl) rfl

theorem gw_600 : Cond.selects "Collationer$Elements" ({ cls := "Collationer$Elements", name := "putLevel", desc := "(LCollationer$Tailoring;ILCollationer$Row;)V" } : Jvm.MethodName) ({ cls := "Collationer$Elements", name := "putLevel", desc := "(LCollationer$Tailoring;ILCollationer$Row;)V" } : Jvm.MethodName) ∈ mGd := lk_3 (List.mem_of_getElem? (i := 120) rfl) rfl

theorem gw_601 : Cond.code ({ cls := "Collationer$Elements", name := "putLevel", desc := "(LCollationer$Tailoring;ILCollationer$Row;)V" } : Jvm.MethodName) prog_5_method_12_code (10 : Nat) (Option.none : Option FieldType) ∈ mGd := lk_3 (List.mem_of_getElem? (i := 121) rfl) rfl

theorem gw_610 : Cond.methodLink "Collationer$Collator" (57 : Nat) ({ cls := "Collationer$Collator", name := "putRuns", desc := "(LCollationer$Row;LCollationer$Row;)V" } : Jvm.MethodName) ∈ mGd := lk_3 (List.mem_of_getElem? (i := 130) rfl) rfl

theorem gw_611 : Cond.static ({ cls := "Collationer$Collator", name := "putRuns", desc := "(LCollationer$Row;LCollationer$Row;)V" } : Jvm.MethodName) ∈ mGd := lk_3 (List.mem_of_getElem? (i := 131) rfl) rfl

theorem gw_612 : Cond.code ({ cls := "Collationer$Collator", name := "putRuns", desc := "(LCollationer$Row;LCollationer$Row;)V" } : Jvm.MethodName) prog_2_method_6_code (4 : Nat) (Option.none : Option FieldType) ∈ mGd := lk_3 (List.mem_of_getElem? (i := 132) rfl) rfl

theorem gw_8 : Cond.initialized "Collationer$Collator" ∈ mGd := lk_1 (List.mem_of_getElem? (i := 8) rfl) rfl

theorem gw_619 : Cond.methodLink "Collationer$Collator" (61 : Nat) ({ cls := "Collationer$Collator", name := "putRaised", desc := "(LCollationer$Row;LCollationer$Row;)V" } : Jvm.MethodName) ∈ mGd := lk_3 (List.mem_of_getElem? (i := 139) rfl) rfl

theorem gw_620 : Cond.static ({ cls := "Collationer$Collator", name := "putRaised", desc := "(LCollationer$Row;LCollationer$Row;)V" } : Jvm.MethodName) ∈ mGd := lk_3 (List.mem_of_getElem? (i := 140) rfl) rfl

theorem gw_621 : Cond.code ({ cls := "Collationer$Collator", name := "putRaised", desc := "(LCollationer$Row;LCollationer$Row;)V" } : Jvm.MethodName) prog_2_method_5_code (3 : Nat) (Option.none : Option FieldType) ∈ mGd := lk_3 (List.mem_of_getElem? (i := 141) rfl) rfl

theorem gw_618 : Cond.methodLink "Collationer$Collator" (64 : Nat) ({ cls := "Collationer$Row", name := "put", desc := "(I)V" } : Jvm.MethodName) ∈ mGd := lk_3 (List.mem_of_getElem? (i := 138) rfl) rfl

theorem gw_79 : Cond.instanceMethod ({ cls := "Collationer$Row", name := "put", desc := "(I)V" } : Jvm.MethodName) ∈ mGd := lk_1 (List.mem_of_getElem? (i := 79) rfl) rfl

theorem gw_80 : Cond.selects "Collationer$Row" ({ cls := "Collationer$Row", name := "put", desc := "(I)V" } : Jvm.MethodName) ({ cls := "Collationer$Row", name := "put", desc := "(I)V" } : Jvm.MethodName) ∈ mGd := lk_1 (List.mem_of_getElem? (i := 80) rfl) rfl

theorem gw_81 : Cond.code ({ cls := "Collationer$Row", name := "put", desc := "(I)V" } : Jvm.MethodName) prog_10_method_6_code (2 : Nat) (Option.none : Option FieldType) ∈ mGd := lk_1 (List.mem_of_getElem? (i := 81) rfl) rfl

theorem gw_614 : Cond.methodLink "Collationer$Collator" (67 : Nat) ({ cls := "Collationer$Row", name := "at", desc := "(I)I" } : Jvm.MethodName) ∈ mGd := lk_3 (List.mem_of_getElem? (i := 134) rfl) rfl

theorem gw_95 : Cond.instanceMethod ({ cls := "Collationer$Row", name := "at", desc := "(I)I" } : Jvm.MethodName) ∈ mGd := lk_1 (List.mem_of_getElem? (i := 95) rfl) rfl

theorem gw_96 : Cond.selects "Collationer$Row" ({ cls := "Collationer$Row", name := "at", desc := "(I)I" } : Jvm.MethodName) ({ cls := "Collationer$Row", name := "at", desc := "(I)I" } : Jvm.MethodName) ∈ mGd := lk_1 (List.mem_of_getElem? (i := 96) rfl) rfl

theorem gw_97 : Cond.code ({ cls := "Collationer$Row", name := "at", desc := "(I)I" } : Jvm.MethodName) prog_10_method_4_code (2 : Nat) (Option.some FieldType.int) ∈ mGd := lk_1 (List.mem_of_getElem? (i := 97) rfl) rfl

theorem gw_613 : Cond.methodLink "Collationer$Collator" (70 : Nat) ({ cls := "Collationer$Row", name := "size", desc := "()I" } : Jvm.MethodName) ∈ mGd := lk_3 (List.mem_of_getElem? (i := 133) rfl) rfl

theorem gw_91 : Cond.instanceMethod ({ cls := "Collationer$Row", name := "size", desc := "()I" } : Jvm.MethodName) ∈ mGd := lk_1 (List.mem_of_getElem? (i := 91) rfl) rfl

theorem gw_92 : Cond.selects "Collationer$Row" ({ cls := "Collationer$Row", name := "size", desc := "()I" } : Jvm.MethodName) ({ cls := "Collationer$Row", name := "size", desc := "()I" } : Jvm.MethodName) ∈ mGd := lk_1 (List.mem_of_getElem? (i := 92) rfl) rfl

theorem gw_93 : Cond.code ({ cls := "Collationer$Row", name := "size", desc := "()I" } : Jvm.MethodName) prog_10_method_2_code (1 : Nat) (Option.some FieldType.int) ∈ mGd := lk_1 (List.mem_of_getElem? (i := 93) rfl) rfl

theorem gw_615 : Cond.methodLink "Collationer$Collator" (74 : Nat) ({ cls := "Collationer$Collator", name := "putRun", desc := "(IZLCollationer$Row;)V" } : Jvm.MethodName) ∈ mGd := lk_3 (List.mem_of_getElem? (i := 135) rfl) rfl

theorem gw_616 : Cond.static ({ cls := "Collationer$Collator", name := "putRun", desc := "(IZLCollationer$Row;)V" } : Jvm.MethodName) ∈ mGd := lk_3 (List.mem_of_getElem? (i := 136) rfl) rfl

theorem gw_617 : Cond.code ({ cls := "Collationer$Collator", name := "putRun", desc := "(IZLCollationer$Row;)V" } : Jvm.MethodName) prog_2_method_7_code (4 : Nat) (Option.none : Option FieldType) ∈ mGd := lk_3 (List.mem_of_getElem? (i := 137) rfl) rfl

theorem gw_1203 : Cond.methodLink "Collationer$Collator" (78 : Nat) ({ cls := "Collationer$Collator", name := "putKey", desc := "(LCollationer$Tailoring;ILCollationer$Row;LCollationer$Row;)V" } : Jvm.MethodName) ∈ mGd := lk_6 (List.mem_of_getElem? (i := 3) rfl) rfl

theorem gw_504 : Cond.instanceMethod ({ cls := "Collationer$Collator", name := "putKey", desc := "(LCollationer$Tailoring;ILCollationer$Row;LCollationer$Row;)V" } : Jvm.MethodName) ∈ mGd := lk_3 (List.mem_of_getElem? (i := 24) rfl) rfl

theorem gw_505 : Cond.selects "Collationer$Collator" ({ cls := "Collationer$Collator", name := "putKey", desc := "(LCollationer$Tailoring;ILCollationer$Row;LCollationer$Row;)V" } : Jvm.MethodName) ({ cls := "Collationer$Collator", name := "putKey", desc := "(LCollationer$Tailoring;ILCollationer$Row;LCollationer$Row;)V" } : Jvm.MethodName) ∈ mGd := lk_3 (List.mem_of_getElem? (i := 25) rfl) rfl

theorem gw_506 : Cond.code ({ cls := "Collationer$Collator", name := "putKey", desc := "(LCollationer$Tailoring;ILCollationer$Row;LCollationer$Row;)V" } : Jvm.MethodName) prog_2_method_3_code (6 : Nat) (Option.none : Option FieldType) ∈ mGd := lk_3 (List.mem_of_getElem? (i := 26) rfl) rfl

theorem gw_643 : Cond.static ({ cls := "Collationer", name := "compareRows", desc := "(LCollationer$Row;LCollationer$Row;)I" } : Jvm.MethodName) ∈ mGd := lk_3 (List.mem_of_getElem? (i := 163) rfl) rfl

theorem gw_644 : Cond.code ({ cls := "Collationer", name := "compareRows", desc := "(LCollationer$Row;LCollationer$Row;)I" } : Jvm.MethodName) prog_1_method_66_code (4 : Nat) (Option.some FieldType.int) ∈ mGd := lk_3 (List.mem_of_getElem? (i := 164) rfl) rfl

theorem gw_1 : Cond.initialized "Collationer" ∈ mGd := lk_1 (List.mem_of_getElem? (i := 1) rfl) rfl

theorem gw_33 : Cond.methodLink "Collationer$Compositions" (3 : Nat) ({ cls := "java/lang/Object", name := "<init>", desc := "()V" } : Jvm.MethodName) ∈ mGd := lk_1 (List.mem_of_getElem? (i := 33) rfl) rfl

theorem gw_44 : Cond.arrayClass FieldType.int ∈ mGd := lk_1 (List.mem_of_getElem? (i := 44) rfl) rfl

theorem gw_34 : Cond.fieldLink "Collationer$Compositions" (9 : Nat) "Collationer$Compositions" "bases" "[I" ∈ mGd := lk_1 (List.mem_of_getElem? (i := 34) rfl) rfl

theorem gw_35 : Cond.fieldLink "Collationer$Compositions" (15 : Nat) "Collationer$Compositions" "marks" "[I" ∈ mGd := lk_1 (List.mem_of_getElem? (i := 35) rfl) rfl

theorem gw_36 : Cond.fieldLink "Collationer$Compositions" (18 : Nat) "Collationer$Compositions" "count" "I" ∈ mGd := lk_1 (List.mem_of_getElem? (i := 36) rfl) rfl

theorem gw_829 : Cond.methodLink "Collationer$Compositions" (22 : Nat) ({ cls := "Collationer$Compositions", name := "baseOf", desc := "(I)I" } : Jvm.MethodName) ∈ mGd := lk_4 (List.mem_of_getElem? (i := 109) rfl) rfl

theorem gw_831 : Cond.instanceMethod ({ cls := "Collationer$Compositions", name := "baseOf", desc := "(I)I" } : Jvm.MethodName) ∈ mGd := lk_4 (List.mem_of_getElem? (i := 111) rfl) rfl

theorem gs_15 : Cond.selects "Collationer$Compositions" ⟨"Collationer$Compositions", "baseOf", "(I)I"⟩ ⟨"Collationer$Compositions", "baseOf", "(I)I"⟩ ∈ mGd := lp_2 (q := (⟨"Collationer$Compositions", "baseOf", "(I)I"⟩, 3)) (List.mem_of_getElem? (i := 10) rfl)

theorem gw_832 : Cond.code ({ cls := "Collationer$Compositions", name := "baseOf", desc := "(I)I" } : Jvm.MethodName) prog_3_method_4_code (2 : Nat) (Option.some FieldType.int) ∈ mGd := lk_4 (List.mem_of_getElem? (i := 112) rfl) rfl

theorem gw_2 : Cond.initialized "Collationer$Compositions" ∈ mGd := lk_1 (List.mem_of_getElem? (i := 2) rfl) rfl

theorem gw_844 : Cond.static ({ cls := "Collationer", name := "isLetter", desc := "(I)Z" } : Jvm.MethodName) ∈ mGd := lk_4 (List.mem_of_getElem? (i := 124) rfl) rfl

theorem gw_845 : Cond.code ({ cls := "Collationer", name := "isLetter", desc := "(I)Z" } : Jvm.MethodName) prog_1_method_52_code (1 : Nat) (Option.some FieldType.boolean) ∈ mGd := lk_4 (List.mem_of_getElem? (i := 125) rfl) rfl

theorem gw_869 : Cond.methodLink "Collationer$Compositions" (30 : Nat) ({ cls := "Collationer$Row", name := "clear", desc := "()V" } : Jvm.MethodName) ∈ mGd := lk_4 (List.mem_of_getElem? (i := 149) rfl) rfl

theorem gw_870 : Cond.methodLink "Collationer$Compositions" (35 : Nat) ({ cls := "Collationer$Row", name := "size", desc := "()I" } : Jvm.MethodName) ∈ mGd := lk_4 (List.mem_of_getElem? (i := 150) rfl) rfl

theorem gw_871 : Cond.methodLink "Collationer$Compositions" (39 : Nat) ({ cls := "Collationer$Row", name := "at", desc := "(I)I" } : Jvm.MethodName) ∈ mGd := lk_4 (List.mem_of_getElem? (i := 151) rfl) rfl

theorem gw_872 : Cond.methodLink "Collationer$Compositions" (42 : Nat) ({ cls := "Collationer$Compositions", name := "putApart", desc := "(ILCollationer$Row;)V" } : Jvm.MethodName) ∈ mGd := lk_4 (List.mem_of_getElem? (i := 152) rfl) rfl

theorem gw_874 : Cond.instanceMethod ({ cls := "Collationer$Compositions", name := "putApart", desc := "(ILCollationer$Row;)V" } : Jvm.MethodName) ∈ mGd := lk_4 (List.mem_of_getElem? (i := 154) rfl) rfl

theorem gs_21 : Cond.selects "Collationer$Compositions" ⟨"Collationer$Compositions", "putApart", "(ILCollationer$Row;)V"⟩ ⟨"Collationer$Compositions", "putApart", "(ILCollationer$Row;)V"⟩ ∈ mGd := lp_2 (q := (⟨"Collationer$Compositions", "putApart", "(ILCollationer$Row;)V"⟩, 3)) (List.mem_of_getElem? (i := 11) rfl)

theorem gw_875 : Cond.code ({ cls := "Collationer$Compositions", name := "putApart", desc := "(ILCollationer$Row;)V" } : Jvm.MethodName) prog_3_method_10_code (4 : Nat) (Option.none : Option FieldType) ∈ mGd := lk_4 (List.mem_of_getElem? (i := 155) rfl) rfl

theorem gw_882 : Cond.methodLink "Collationer$Compositions" (46 : Nat) ({ cls := "Collationer$Compositions", name := "sinkMark", desc := "(LCollationer$Row;I)V" } : Jvm.MethodName) ∈ mGd := lk_4 (List.mem_of_getElem? (i := 162) rfl) rfl

theorem gw_883 : Cond.static ({ cls := "Collationer$Compositions", name := "sinkMark", desc := "(LCollationer$Row;I)V" } : Jvm.MethodName) ∈ mGd := lk_4 (List.mem_of_getElem? (i := 163) rfl) rfl

theorem gw_884 : Cond.code ({ cls := "Collationer$Compositions", name := "sinkMark", desc := "(LCollationer$Row;I)V" } : Jvm.MethodName) prog_3_method_11_code (4 : Nat) (Option.none : Option FieldType) ∈ mGd := lk_4 (List.mem_of_getElem? (i := 164) rfl) rfl

theorem gw_876 : Cond.methodLink "Collationer$Compositions" (50 : Nat) ({ cls := "Collationer$Compositions", name := "has", desc := "(I)Z" } : Jvm.MethodName) ∈ mGd := lk_4 (List.mem_of_getElem? (i := 156) rfl) rfl

theorem gw_826 : Cond.instanceMethod ({ cls := "Collationer$Compositions", name := "has", desc := "(I)Z" } : Jvm.MethodName) ∈ mGd := lk_4 (List.mem_of_getElem? (i := 106) rfl) rfl

theorem gw_827 : Cond.selects "Collationer$Compositions" ({ cls := "Collationer$Compositions", name := "has", desc := "(I)Z" } : Jvm.MethodName) ({ cls := "Collationer$Compositions", name := "has", desc := "(I)Z" } : Jvm.MethodName) ∈ mGd := lk_4 (List.mem_of_getElem? (i := 107) rfl) rfl

theorem gw_828 : Cond.code ({ cls := "Collationer$Compositions", name := "has", desc := "(I)Z" } : Jvm.MethodName) prog_3_method_3_code (2 : Nat) (Option.some FieldType.boolean) ∈ mGd := lk_4 (List.mem_of_getElem? (i := 108) rfl) rfl

theorem gw_877 : Cond.methodLink "Collationer$Compositions" (53 : Nat) ({ cls := "Collationer$Row", name := "put", desc := "(I)V" } : Jvm.MethodName) ∈ mGd := lk_4 (List.mem_of_getElem? (i := 157) rfl) rfl

theorem gw_878 : Cond.methodLink "Collationer$Compositions" (57 : Nat) ({ cls := "Collationer$Compositions", name := "markOf", desc := "(I)I" } : Jvm.MethodName) ∈ mGd := lk_4 (List.mem_of_getElem? (i := 158) rfl) rfl

theorem gw_880 : Cond.instanceMethod ({ cls := "Collationer$Compositions", name := "markOf", desc := "(I)I" } : Jvm.MethodName) ∈ mGd := lk_4 (List.mem_of_getElem? (i := 160) rfl) rfl

theorem gs_16 : Cond.selects "Collationer$Compositions" ⟨"Collationer$Compositions", "markOf", "(I)I"⟩ ⟨"Collationer$Compositions", "markOf", "(I)I"⟩ ∈ mGd := lp_2 (q := (⟨"Collationer$Compositions", "markOf", "(I)I"⟩, 3)) (List.mem_of_getElem? (i := 12) rfl)

theorem gw_881 : Cond.code ({ cls := "Collationer$Compositions", name := "markOf", desc := "(I)I" } : Jvm.MethodName) prog_3_method_5_code (2 : Nat) (Option.some FieldType.int) ∈ mGd := lk_4 (List.mem_of_getElem? (i := 161) rfl) rfl

theorem gw_520 : Cond.static ({ cls := "Collationer", name := "isMark", desc := "(I)Z" } : Jvm.MethodName) ∈ mGd := lk_3 (List.mem_of_getElem? (i := 40) rfl) rfl

theorem gw_521 : Cond.code ({ cls := "Collationer", name := "isMark", desc := "(I)Z" } : Jvm.MethodName) prog_1_method_53_code (1 : Nat) (Option.some FieldType.boolean) ∈ mGd := lk_3 (List.mem_of_getElem? (i := 41) rfl) rfl

theorem gw_579 : Cond.static ({ cls := "Collationer", name := "classOf", desc := "(I)I" } : Jvm.MethodName) ∈ mGd := lk_3 (List.mem_of_getElem? (i := 99) rfl) rfl

theorem gw_580 : Cond.code ({ cls := "Collationer", name := "classOf", desc := "(I)I" } : Jvm.MethodName) prog_1_method_56_code (1 : Nat) (Option.some FieldType.int) ∈ mGd := lk_3 (List.mem_of_getElem? (i := 100) rfl) rfl

theorem gw_887 : Cond.methodLink "Collationer$Compositions" (66 : Nat) ({ cls := "Collationer$Row", name := "set", desc := "(II)V" } : Jvm.MethodName) ∈ mGd := lk_4 (List.mem_of_getElem? (i := 167) rfl) rfl

theorem gw_531 : Cond.instanceMethod ({ cls := "Collationer$Row", name := "set", desc := "(II)V" } : Jvm.MethodName) ∈ mGd := lk_3 (List.mem_of_getElem? (i := 51) rfl) rfl

theorem gw_532 : Cond.selects "Collationer$Row" ({ cls := "Collationer$Row", name := "set", desc := "(II)V" } : Jvm.MethodName) ({ cls := "Collationer$Row", name := "set", desc := "(II)V" } : Jvm.MethodName) ∈ mGd := lk_3 (List.mem_of_getElem? (i := 52) rfl) rfl

theorem gw_533 : Cond.code ({ cls := "Collationer$Row", name := "set", desc := "(II)V" } : Jvm.MethodName) prog_10_method_5_code (3 : Nat) (Option.none : Option FieldType) ∈ mGd := lk_3 (List.mem_of_getElem? (i := 53) rfl) rfl

theorem gw_1129 : Cond.methodLink "Collationer$Compositions" (70 : Nat) ({ cls := "Collationer$Compositions", name := "composedOf", desc := "(II)I" } : Jvm.MethodName) ∈ mGd := lk_5 (List.mem_of_getElem? (i := 169) rfl) rfl

theorem gw_848 : Cond.instanceMethod ({ cls := "Collationer$Compositions", name := "composedOf", desc := "(II)I" } : Jvm.MethodName) ∈ mGd := lk_4 (List.mem_of_getElem? (i := 128) rfl) rfl

theorem gw_849 : Cond.selects "Collationer$Compositions" ({ cls := "Collationer$Compositions", name := "composedOf", desc := "(II)I" } : Jvm.MethodName) ({ cls := "Collationer$Compositions", name := "composedOf", desc := "(II)I" } : Jvm.MethodName) ∈ mGd := lk_4 (List.mem_of_getElem? (i := 129) rfl) rfl

theorem gw_850 : Cond.code ({ cls := "Collationer$Compositions", name := "composedOf", desc := "(II)I" } : Jvm.MethodName) prog_3_method_8_code (4 : Nat) (Option.some FieldType.int) ∈ mGd := lk_4 (List.mem_of_getElem? (i := 130) rfl) rfl

theorem gw_1130 : Cond.methodLink "Collationer$Compositions" (74 : Nat) ({ cls := "java/lang/Math", name := "max", desc := "(II)I" } : Jvm.MethodName) ∈ mGd := lk_5 (List.mem_of_getElem? (i := 170) rfl) rfl

theorem gw_52 : Cond.static ({ cls := "java/lang/Math", name := "max", desc := "(II)I" } : Jvm.MethodName) ∈ mGd := lk_1 (List.mem_of_getElem? (i := 52) rfl) rfl

theorem gw_53 : Cond.code ({ cls := "java/lang/Math", name := "max", desc := "(II)I" } : Jvm.MethodName) prog_19_method_65_code (2 : Nat) (Option.some FieldType.int) ∈ mGd := lk_1 (List.mem_of_getElem? (i := 53) rfl) rfl

theorem gw_4 : Cond.initialized "java/lang/Math" ∈ mGd := lk_1 (List.mem_of_getElem? (i := 4) rfl) rfl

theorem gw_142 : Cond.methodLink "Collationer$Corpus" (3 : Nat) ({ cls := "java/lang/Object", name := "<init>", desc := "()V" } : Jvm.MethodName) ∈ mGd := lk_1 (List.mem_of_getElem? (i := 142) rfl) rfl

theorem gw_143 : Cond.classLink "Collationer$Corpus" (9 : Nat) "Collationer$Row" ∈ mGd := lk_1 (List.mem_of_getElem? (i := 143) rfl) rfl

theorem gw_144 : Cond.methodLink "Collationer$Corpus" (11 : Nat) ({ cls := "Collationer$Row", name := "<init>", desc := "(I)V" } : Jvm.MethodName) ∈ mGd := lk_1 (List.mem_of_getElem? (i := 144) rfl) rfl

theorem gw_145 : Cond.fieldLink "Collationer$Corpus" (14 : Nat) "Collationer$Corpus" "wordTexts" "LCollationer$Row;" ∈ mGd := lk_1 (List.mem_of_getElem? (i := 145) rfl) rfl

theorem gw_146 : Cond.fieldLink "Collationer$Corpus" (20 : Nat) "Collationer$Corpus" "wordReads" "LCollationer$Row;" ∈ mGd := lk_1 (List.mem_of_getElem? (i := 146) rfl) rfl

theorem gw_147 : Cond.fieldLink "Collationer$Corpus" (23 : Nat) "Collationer$Corpus" "readings" "[LCollationer$Row;" ∈ mGd := lk_1 (List.mem_of_getElem? (i := 147) rfl) rfl

theorem gw_696 : Cond.methodLink "Collationer$Corpus" (27 : Nat) ({ cls := "Collationer$Row", name := "size", desc := "()I" } : Jvm.MethodName) ∈ mGd := lk_3 (List.mem_of_getElem? (i := 216) rfl) rfl

theorem gw_717 : Cond.methodLink "Collationer$Corpus" (31 : Nat) ({ cls := "Collationer$Row", name := "put", desc := "(I)V" } : Jvm.MethodName) ∈ mGd := lk_3 (List.mem_of_getElem? (i := 237) rfl) rfl

theorem gw_1033 : Cond.methodLink "Collationer$Corpus" (34 : Nat) ({ cls := "Collationer$Row", name := "at", desc := "(I)I" } : Jvm.MethodName) ∈ mGd := lk_5 (List.mem_of_getElem? (i := 73) rfl) rfl

theorem gw_1029 : Cond.methodLink "Collationer$Corpus" (42 : Nat) ({ cls := "Collationer$Corpus", name := "readAs", desc := "(I)I" } : Jvm.MethodName) ∈ mGd := lk_5 (List.mem_of_getElem? (i := 69) rfl) rfl

theorem gw_1030 : Cond.instanceMethod ({ cls := "Collationer$Corpus", name := "readAs", desc := "(I)I" } : Jvm.MethodName) ∈ mGd := lk_5 (List.mem_of_getElem? (i := 70) rfl) rfl

theorem gw_1031 : Cond.selects "Collationer$Corpus" ({ cls := "Collationer$Corpus", name := "readAs", desc := "(I)I" } : Jvm.MethodName) ({ cls := "Collationer$Corpus", name := "readAs", desc := "(I)I" } : Jvm.MethodName) ∈ mGd := lk_5 (List.mem_of_getElem? (i := 71) rfl) rfl

theorem gw_1032 : Cond.code ({ cls := "Collationer$Corpus", name := "readAs", desc := "(I)I" } : Jvm.MethodName) prog_4_method_6_code (2 : Nat) (Option.some FieldType.int) ∈ mGd := lk_5 (List.mem_of_getElem? (i := 72) rfl) rfl

theorem gw_6 : Cond.initialized "Collationer$Corpus" ∈ mGd := lk_1 (List.mem_of_getElem? (i := 6) rfl) rfl

theorem gw_1034 : Cond.methodLink "Collationer$Corpus" (45 : Nat) ({ cls := "Collationer$Corpus", name := "textOf", desc := "(I)I" } : Jvm.MethodName) ∈ mGd := lk_5 (List.mem_of_getElem? (i := 74) rfl) rfl

theorem gw_1035 : Cond.instanceMethod ({ cls := "Collationer$Corpus", name := "textOf", desc := "(I)I" } : Jvm.MethodName) ∈ mGd := lk_5 (List.mem_of_getElem? (i := 75) rfl) rfl

theorem gw_1036 : Cond.selects "Collationer$Corpus" ({ cls := "Collationer$Corpus", name := "textOf", desc := "(I)I" } : Jvm.MethodName) ({ cls := "Collationer$Corpus", name := "textOf", desc := "(I)I" } : Jvm.MethodName) ∈ mGd := lk_5 (List.mem_of_getElem? (i := 76) rfl) rfl

theorem gw_1037 : Cond.code ({ cls := "Collationer$Corpus", name := "textOf", desc := "(I)I" } : Jvm.MethodName) prog_4_method_5_code (2 : Nat) (Option.some FieldType.int) ∈ mGd := lk_5 (List.mem_of_getElem? (i := 77) rfl) rfl

theorem gw_1038 : Cond.methodLink "Collationer$Corpus" (48 : Nat) ({ cls := "Collationer$Corpus", name := "readingsOf", desc := "(I)LCollationer$Row;" } : Jvm.MethodName) ∈ mGd := lk_5 (List.mem_of_getElem? (i := 78) rfl) rfl

theorem gw_1039 : Cond.instanceMethod ({ cls := "Collationer$Corpus", name := "readingsOf", desc := "(I)LCollationer$Row;" } : Jvm.MethodName) ∈ mGd := lk_5 (List.mem_of_getElem? (i := 79) rfl) rfl

theorem gw_1040 : Cond.selects "Collationer$Corpus" ({ cls := "Collationer$Corpus", name := "readingsOf", desc := "(I)LCollationer$Row;" } : Jvm.MethodName) ({ cls := "Collationer$Corpus", name := "readingsOf", desc := "(I)LCollationer$Row;" } : Jvm.MethodName) ∈ mGd := lk_5 (List.mem_of_getElem? (i := 80) rfl) rfl

theorem gw_1041 : Cond.code ({ cls := "Collationer$Corpus", name := "readingsOf", desc := "(I)LCollationer$Row;" } : Jvm.MethodName) prog_4_method_8_code (2 : Nat) (Option.some (FieldType.object "Collationer$Row")) ∈ mGd := lk_5 (List.mem_of_getElem? (i := 81) rfl) rfl

theorem gw_1042 : Cond.methodLink "Collationer$Corpus" (52 : Nat) ({ cls := "Collationer$Row", name := "isEmpty", desc := "()Z" } : Jvm.MethodName) ∈ mGd := lk_5 (List.mem_of_getElem? (i := 82) rfl) rfl

theorem gw_780 : Cond.instanceMethod ({ cls := "Collationer$Row", name := "isEmpty", desc := "()Z" } : Jvm.MethodName) ∈ mGd := lk_4 (List.mem_of_getElem? (i := 60) rfl) rfl

theorem gw_781 : Cond.selects "Collationer$Row" ({ cls := "Collationer$Row", name := "isEmpty", desc := "()Z" } : Jvm.MethodName) ({ cls := "Collationer$Row", name := "isEmpty", desc := "()Z" } : Jvm.MethodName) ∈ mGd := lk_4 (List.mem_of_getElem? (i := 61) rfl) rfl

theorem gw_782 : Cond.code ({ cls := "Collationer$Row", name := "isEmpty", desc := "()Z" } : Jvm.MethodName) prog_10_method_3_code (1 : Nat) (Option.some FieldType.boolean) ∈ mGd := lk_4 (List.mem_of_getElem? (i := 62) rfl) rfl

theorem gw_1043 : Cond.methodLink "Collationer$Corpus" (56 : Nat) ({ cls := "Collationer$Row", name := "has", desc := "(I)Z" } : Jvm.MethodName) ∈ mGd := lk_5 (List.mem_of_getElem? (i := 83) rfl) rfl

theorem gw_908 : Cond.instanceMethod ({ cls := "Collationer$Row", name := "has", desc := "(I)Z" } : Jvm.MethodName) ∈ mGd := lk_4 (List.mem_of_getElem? (i := 188) rfl) rfl

theorem gw_909 : Cond.selects "Collationer$Row" ({ cls := "Collationer$Row", name := "has", desc := "(I)Z" } : Jvm.MethodName) ({ cls := "Collationer$Row", name := "has", desc := "(I)Z" } : Jvm.MethodName) ∈ mGd := lk_4 (List.mem_of_getElem? (i := 189) rfl) rfl

theorem gw_910 : Cond.code ({ cls := "Collationer$Row", name := "has", desc := "(I)Z" } : Jvm.MethodName) prog_10_method_13_code (2 : Nat) (Option.some FieldType.boolean) ∈ mGd := lk_4 (List.mem_of_getElem? (i := 190) rfl) rfl

theorem gw_1025 : Cond.methodLink "Collationer$Corpus" (60 : Nat) ({ cls := "Collationer$Corpus", name := "isOf", desc := "(II)Z" } : Jvm.MethodName) ∈ mGd := lk_5 (List.mem_of_getElem? (i := 65) rfl) rfl

theorem gw_1026 : Cond.instanceMethod ({ cls := "Collationer$Corpus", name := "isOf", desc := "(II)Z" } : Jvm.MethodName) ∈ mGd := lk_5 (List.mem_of_getElem? (i := 66) rfl) rfl

theorem gw_1027 : Cond.selects "Collationer$Corpus" ({ cls := "Collationer$Corpus", name := "isOf", desc := "(II)Z" } : Jvm.MethodName) ({ cls := "Collationer$Corpus", name := "isOf", desc := "(II)Z" } : Jvm.MethodName) ∈ mGd := lk_5 (List.mem_of_getElem? (i := 67) rfl) rfl

theorem gw_1028 : Cond.code ({ cls := "Collationer$Corpus", name := "isOf", desc := "(II)Z" } : Jvm.MethodName) prog_4_method_9_code (4 : Nat) (Option.some FieldType.boolean) ∈ mGd := lk_5 (List.mem_of_getElem? (i := 68) rfl) rfl

theorem gw_181 : Cond.methodLink "Collationer$Elements" (3 : Nat) ({ cls := "java/lang/Object", name := "<init>", desc := "()V" } : Jvm.MethodName) ∈ mGd := lk_1 (List.mem_of_getElem? (i := 181) rfl) rfl

theorem gw_182 : Cond.classLink "Collationer$Elements" (9 : Nat) "Collationer$Row" ∈ mGd := lk_1 (List.mem_of_getElem? (i := 182) rfl) rfl

theorem gw_183 : Cond.methodLink "Collationer$Elements" (11 : Nat) ({ cls := "Collationer$Row", name := "<init>", desc := "(I)V" } : Jvm.MethodName) ∈ mGd := lk_1 (List.mem_of_getElem? (i := 183) rfl) rfl

theorem gw_184 : Cond.fieldLink "Collationer$Elements" (14 : Nat) "Collationer$Elements" "firsts" "LCollationer$Row;" ∈ mGd := lk_1 (List.mem_of_getElem? (i := 184) rfl) rfl

theorem gw_185 : Cond.fieldLink "Collationer$Elements" (20 : Nat) "Collationer$Elements" "seconds" "LCollationer$Row;" ∈ mGd := lk_1 (List.mem_of_getElem? (i := 185) rfl) rfl

theorem gw_186 : Cond.fieldLink "Collationer$Elements" (23 : Nat) "Collationer$Elements" "thirds" "LCollationer$Row;" ∈ mGd := lk_1 (List.mem_of_getElem? (i := 186) rfl) rfl

theorem gw_187 : Cond.fieldLink "Collationer$Elements" (26 : Nat) "Collationer$Elements" "kinds" "LCollationer$Row;" ∈ mGd := lk_1 (List.mem_of_getElem? (i := 187) rfl) rfl

theorem gw_188 : Cond.fieldLink "Collationer$Elements" (29 : Nat) "Collationer$Elements" "takers" "LCollationer$Row;" ∈ mGd := lk_1 (List.mem_of_getElem? (i := 188) rfl) rfl

theorem gw_511 : Cond.methodLink "Collationer$Elements" (32 : Nat) ({ cls := "Collationer$Row", name := "size", desc := "()I" } : Jvm.MethodName) ∈ mGd := lk_3 (List.mem_of_getElem? (i := 31) rfl) rfl

theorem gw_512 : Cond.methodLink "Collationer$Elements" (36 : Nat) ({ cls := "Collationer$Elements", name := "begin", desc := "(I)V" } : Jvm.MethodName) ∈ mGd := lk_3 (List.mem_of_getElem? (i := 32) rfl) rfl

theorem gw_514 : Cond.instanceMethod ({ cls := "Collationer$Elements", name := "begin", desc := "(I)V" } : Jvm.MethodName) ∈ mGd := lk_3 (List.mem_of_getElem? (i := 34) rfl) rfl

theorem gs_36 : Cond.selects "Collationer$Elements" ⟨"Collationer$Elements", "begin", "(I)V"⟩ ⟨"Collationer$Elements", "begin", "(I)V"⟩ ∈ mGd := lp_1 (q := (⟨"Collationer$Elements", "begin", "(I)V"⟩, 6)) (List.mem_of_getElem? (i := 10) rfl)

theorem gw_515 : Cond.code ({ cls := "Collationer$Elements", name := "begin", desc := "(I)V" } : Jvm.MethodName) prog_5_method_3_code (3 : Nat) (Option.none : Option FieldType) ∈ mGd := lk_3 (List.mem_of_getElem? (i := 35) rfl) rfl

theorem gw_518 : Cond.methodLink "Collationer$Elements" (39 : Nat) ({ cls := "Collationer$Row", name := "at", desc := "(I)I" } : Jvm.MethodName) ∈ mGd := lk_3 (List.mem_of_getElem? (i := 38) rfl) rfl

theorem gw_522 : Cond.methodLink "Collationer$Elements" (47 : Nat) ({ cls := "Collationer$Elements", name := "putMark", desc := "(II)V" } : Jvm.MethodName) ∈ mGd := lk_3 (List.mem_of_getElem? (i := 42) rfl) rfl

theorem gw_524 : Cond.instanceMethod ({ cls := "Collationer$Elements", name := "putMark", desc := "(II)V" } : Jvm.MethodName) ∈ mGd := lk_3 (List.mem_of_getElem? (i := 44) rfl) rfl

theorem gs_39 : Cond.selects "Collationer$Elements" ⟨"Collationer$Elements", "putMark", "(II)V"⟩ ⟨"Collationer$Elements", "putMark", "(II)V"⟩ ∈ mGd := lp_1 (q := (⟨"Collationer$Elements", "putMark", "(II)V"⟩, 6)) (List.mem_of_getElem? (i := 11) rfl)

theorem gw_525 : Cond.code ({ cls := "Collationer$Elements", name := "putMark", desc := "(II)V" } : Jvm.MethodName) prog_5_method_6_code (3 : Nat) (Option.none : Option FieldType) ∈ mGd := lk_3 (List.mem_of_getElem? (i := 45) rfl) rfl

theorem gw_539 : Cond.static ({ cls := "Collationer", name := "isDigit", desc := "(I)Z" } : Jvm.MethodName) ∈ mGd := lk_3 (List.mem_of_getElem? (i := 59) rfl) rfl

theorem gw_540 : Cond.code ({ cls := "Collationer", name := "isDigit", desc := "(I)Z" } : Jvm.MethodName) prog_1_method_55_code (1 : Nat) (Option.some FieldType.boolean) ∈ mGd := lk_3 (List.mem_of_getElem? (i := 60) rfl) rfl

theorem gw_541 : Cond.methodLink "Collationer$Elements" (54 : Nat) ({ cls := "Collationer$Tailoring", name := "hasOption", desc := "(I)Z" } : Jvm.MethodName) ∈ mGd := lk_3 (List.mem_of_getElem? (i := 61) rfl) rfl

theorem gw_542 : Cond.instanceMethod ({ cls := "Collationer$Tailoring", name := "hasOption", desc := "(I)Z" } : Jvm.MethodName) ∈ mGd := lk_3 (List.mem_of_getElem? (i := 62) rfl) rfl

theorem gw_543 : Cond.selects "Collationer$Tailoring" ({ cls := "Collationer$Tailoring", name := "hasOption", desc := "(I)Z" } : Jvm.MethodName) ({ cls := "Collationer$Tailoring", name := "hasOption", desc := "(I)Z" } : Jvm.MethodName) ∈ mGd := lk_3 (List.mem_of_getElem? (i := 63) rfl) rfl

theorem gw_544 : Cond.code ({ cls := "Collationer$Tailoring", name := "hasOption", desc := "(I)Z" } : Jvm.MethodName) prog_11_method_4_code (2 : Nat) (Option.some FieldType.boolean) ∈ mGd := lk_3 (List.mem_of_getElem? (i := 64) rfl) rfl

theorem gw_5 : Cond.initialized "Collationer$Tailoring" ∈ mGd := lk_1 (List.mem_of_getElem? (i := 5) rfl) rfl

theorem gw_545 : Cond.methodLink "Collationer$Elements" (59 : Nat) ({ cls := "Collationer$Elements", name := "putNumber", desc := "(LCollationer$Tailoring;LCollationer$Row;I)V" } : Jvm.MethodName) ∈ mGd := lk_3 (List.mem_of_getElem? (i := 65) rfl) rfl

theorem gw_547 : Cond.instanceMethod ({ cls := "Collationer$Elements", name := "putNumber", desc := "(LCollationer$Tailoring;LCollationer$Row;I)V" } : Jvm.MethodName) ∈ mGd := lk_3 (List.mem_of_getElem? (i := 67) rfl) rfl

theorem gs_40 : Cond.selects "Collationer$Elements" ⟨"Collationer$Elements", "putNumber", "(LCollationer$Tailoring;LCollationer$Row;I)V"⟩ ⟨"Collationer$Elements", "putNumber", "(LCollationer$Tailoring;LCollationer$Row;I)V"⟩ ∈ mGd := lp_1 (q := (⟨"Collationer$Elements", "putNumber", "(LCollationer$Tailoring;LCollationer$Row;I)V"⟩, 6)) (List.mem_of_getElem? (i := 13) rfl)

theorem gw_548 : Cond.code ({ cls := "Collationer$Elements", name := "putNumber", desc := "(LCollationer$Tailoring;LCollationer$Row;I)V" } : Jvm.MethodName) prog_5_method_7_code (7 : Nat) (Option.none : Option FieldType) ∈ mGd := lk_3 (List.mem_of_getElem? (i := 68) rfl) rfl

theorem gw_559 : Cond.methodLink "Collationer$Elements" (63 : Nat) ({ cls := "Collationer$Elements", name := "putItem", desc := "(LCollationer$Tailoring;LCollationer$Row;I)V" } : Jvm.MethodName) ∈ mGd := lk_3 (List.mem_of_getElem? (i := 79) rfl) rfl

theorem gw_561 : Cond.instanceMethod ({ cls := "Collationer$Elements", name := "putItem", desc := "(LCollationer$Tailoring;LCollationer$Row;I)V" } : Jvm.MethodName) ∈ mGd := lk_3 (List.mem_of_getElem? (i := 81) rfl) rfl

theorem gs_41 : Cond.selects "Collationer$Elements" ⟨"Collationer$Elements", "putItem", "(LCollationer$Tailoring;LCollationer$Row;I)V"⟩ ⟨"Collationer$Elements", "putItem", "(LCollationer$Tailoring;LCollationer$Row;I)V"⟩ ∈ mGd := lp_1 (q := (⟨"Collationer$Elements", "putItem", "(LCollationer$Tailoring;LCollationer$Row;I)V"⟩, 6)) (List.mem_of_getElem? (i := 14) rfl)

theorem gw_562 : Cond.code ({ cls := "Collationer$Elements", name := "putItem", desc := "(LCollationer$Tailoring;LCollationer$Row;I)V" } : Jvm.MethodName) prog_5_method_8_code (5 : Nat) (Option.none : Option FieldType) ∈ mGd := lk_3 (List.mem_of_getElem? (i := 82) rfl) rfl

theorem gw_516 : Cond.methodLink "Collationer$Elements" (66 : Nat) ({ cls := "Collationer$Row", name := "clear", desc := "()V" } : Jvm.MethodName) ∈ mGd := lk_3 (List.mem_of_getElem? (i := 36) rfl) rfl

theorem gw_517 : Cond.methodLink "Collationer$Elements" (69 : Nat) ({ cls := "Collationer$Row", name := "put", desc := "(I)V" } : Jvm.MethodName) ∈ mGd := lk_3 (List.mem_of_getElem? (i := 37) rfl) rfl

theorem gw_189 : Cond.fieldLink "Collationer$Elements" (72 : Nat) "Collationer$Elements" "kind" "I" ∈ mGd := lk_1 (List.mem_of_getElem? (i := 189) rfl) rfl

theorem gw_530 : Cond.methodLink "Collationer$Elements" (76 : Nat) ({ cls := "Collationer$Row", name := "set", desc := "(II)V" } : Jvm.MethodName) ∈ mGd := lk_3 (List.mem_of_getElem? (i := 50) rfl) rfl

theorem gw_526 : Cond.methodLink "Collationer$Elements" (79 : Nat) ({ cls := "Collationer$Elements", name := "take", desc := "(III)V" } : Jvm.MethodName) ∈ mGd := lk_3 (List.mem_of_getElem? (i := 46) rfl) rfl

theorem gw_528 : Cond.instanceMethod ({ cls := "Collationer$Elements", name := "take", desc := "(III)V" } : Jvm.MethodName) ∈ mGd := lk_3 (List.mem_of_getElem? (i := 48) rfl) rfl

theorem gs_38 : Cond.selects "Collationer$Elements" ⟨"Collationer$Elements", "take", "(III)V"⟩ ⟨"Collationer$Elements", "take", "(III)V"⟩ ∈ mGd := lp_1 (q := (⟨"Collationer$Elements", "take", "(III)V"⟩, 6)) (List.mem_of_getElem? (i := 12) rfl)

theorem gw_529 : Cond.code ({ cls := "Collationer$Elements", name := "take", desc := "(III)V" } : Jvm.MethodName) prog_5_method_5_code (5 : Nat) (Option.none : Option FieldType) ∈ mGd := lk_3 (List.mem_of_getElem? (i := 49) rfl) rfl

theorem gw_534 : Cond.methodLink "Collationer$Elements" (83 : Nat) ({ cls := "Collationer$Elements", name := "put", desc := "(III)V" } : Jvm.MethodName) ∈ mGd := lk_3 (List.mem_of_getElem? (i := 54) rfl) rfl

theorem gw_535 : Cond.instanceMethod ({ cls := "Collationer$Elements", name := "put", desc := "(III)V" } : Jvm.MethodName) ∈ mGd := lk_3 (List.mem_of_getElem? (i := 55) rfl) rfl

theorem gw_536 : Cond.selects "Collationer$Elements" ({ cls := "Collationer$Elements", name := "put", desc := "(III)V" } : Jvm.MethodName) ({ cls := "Collationer$Elements", name := "put", desc := "(III)V" } : Jvm.MethodName) ∈ mGd := lk_3 (List.mem_of_getElem? (i := 56) rfl) rfl

theorem gw_537 : Cond.code ({ cls := "Collationer$Elements", name := "put", desc := "(III)V" } : Jvm.MethodName) prog_5_method_4_code (4 : Nat) (Option.none : Option FieldType) ∈ mGd := lk_3 (List.mem_of_getElem? (i := 57) rfl) rfl

theorem gw_76 : Cond.static ({ cls := "Collationer", name := "codeOfSign", desc := "(I)I" } : Jvm.MethodName) ∈ mGd := lk_1 (List.mem_of_getElem? (i := 76) rfl) rfl

theorem gw_77 : Cond.code ({ cls := "Collationer", name := "codeOfSign", desc := "(I)I" } : Jvm.MethodName) prog_1_method_59_code (1 : Nat) (Option.some FieldType.int) ∈ mGd := lk_1 (List.mem_of_getElem? (i := 77) rfl) rfl

theorem gw_550 : Cond.methodLink "Collationer$Elements" (88 : Nat) ({ cls := "Collationer$Tailoring", name := "firstWeightOf", desc := "(I)I" } : Jvm.MethodName) ∈ mGd := lk_3 (List.mem_of_getElem? (i := 70) rfl) rfl

theorem gw_551 : Cond.instanceMethod ({ cls := "Collationer$Tailoring", name := "firstWeightOf", desc := "(I)I" } : Jvm.MethodName) ∈ mGd := lk_3 (List.mem_of_getElem? (i := 71) rfl) rfl

theorem gw_552 : Cond.selects "Collationer$Tailoring" ({ cls := "Collationer$Tailoring", name := "firstWeightOf", desc := "(I)I" } : Jvm.MethodName) ({ cls := "Collationer$Tailoring", name := "firstWeightOf", desc := "(I)I" } : Jvm.MethodName) ∈ mGd := lk_3 (List.mem_of_getElem? (i := 72) rfl) rfl

theorem gw_553 : Cond.code ({ cls := "Collationer$Tailoring", name := "firstWeightOf", desc := "(I)I" } : Jvm.MethodName) prog_11_method_10_code (2 : Nat) (Option.some FieldType.int) ∈ mGd := lk_3 (List.mem_of_getElem? (i := 73) rfl) rfl

theorem gw_564 : Cond.static ({ cls := "Collationer", name := "isBlank", desc := "(I)Z" } : Jvm.MethodName) ∈ mGd := lk_3 (List.mem_of_getElem? (i := 84) rfl) rfl

theorem gw_565 : Cond.code ({ cls := "Collationer", name := "isBlank", desc := "(I)Z" } : Jvm.MethodName) prog_1_method_54_code (1 : Nat) (Option.some FieldType.boolean) ∈ mGd := lk_3 (List.mem_of_getElem? (i := 85) rfl) rfl

theorem gw_567 : Cond.static ({ cls := "Collationer", name := "codeOf", desc := "(LCollationer$Row;II)I" } : Jvm.MethodName) ∈ mGd := lk_3 (List.mem_of_getElem? (i := 87) rfl) rfl

theorem gw_568 : Cond.code ({ cls := "Collationer", name := "codeOf", desc := "(LCollationer$Row;II)I" } : Jvm.MethodName) prog_1_method_58_code (5 : Nat) (Option.some FieldType.int) ∈ mGd := lk_3 (List.mem_of_getElem? (i := 88) rfl) rfl

theorem gw_570 : Cond.methodLink "Collationer$Elements" (98 : Nat) ({ cls := "Collationer$Tailoring", name := "knows", desc := "(I)Z" } : Jvm.MethodName) ∈ mGd := lk_3 (List.mem_of_getElem? (i := 90) rfl) rfl

theorem gw_571 : Cond.instanceMethod ({ cls := "Collationer$Tailoring", name := "knows", desc := "(I)Z" } : Jvm.MethodName) ∈ mGd := lk_3 (List.mem_of_getElem? (i := 91) rfl) rfl

theorem gw_572 : Cond.selects "Collationer$Tailoring" ({ cls := "Collationer$Tailoring", name := "knows", desc := "(I)Z" } : Jvm.MethodName) ({ cls := "Collationer$Tailoring", name := "knows", desc := "(I)Z" } : Jvm.MethodName) ∈ mGd := lk_3 (List.mem_of_getElem? (i := 92) rfl) rfl

theorem gw_573 : Cond.code ({ cls := "Collationer$Tailoring", name := "knows", desc := "(I)Z" } : Jvm.MethodName) prog_11_method_9_code (2 : Nat) (Option.some FieldType.boolean) ∈ mGd := lk_3 (List.mem_of_getElem? (i := 93) rfl) rfl

theorem gw_574 : Cond.methodLink "Collationer$Elements" (101 : Nat) ({ cls := "Collationer$Elements", name := "takeMarks", desc := "(LCollationer$Tailoring;LCollationer$Row;II)I" } : Jvm.MethodName) ∈ mGd := lk_3 (List.mem_of_getElem? (i := 94) rfl) rfl

theorem gw_576 : Cond.instanceMethod ({ cls := "Collationer$Elements", name := "takeMarks", desc := "(LCollationer$Tailoring;LCollationer$Row;II)I" } : Jvm.MethodName) ∈ mGd := lk_3 (List.mem_of_getElem? (i := 96) rfl) rfl

theorem gs_42 : Cond.selects "Collationer$Elements" ⟨"Collationer$Elements", "takeMarks", "(LCollationer$Tailoring;LCollationer$Row;II)I"⟩ ⟨"Collationer$Elements", "takeMarks", "(LCollationer$Tailoring;LCollationer$Row;II)I"⟩ ∈ mGd := lp_1 (q := (⟨"Collationer$Elements", "takeMarks", "(LCollationer$Tailoring;LCollationer$Row;II)I"⟩, 6)) (List.mem_of_getElem? (i := 15) rfl)

theorem gw_577 : Cond.code ({ cls := "Collationer$Elements", name := "takeMarks", desc := "(LCollationer$Tailoring;LCollationer$Row;II)I" } : Jvm.MethodName) prog_5_method_9_code (9 : Nat) (Option.some FieldType.int) ∈ mGd := lk_3 (List.mem_of_getElem? (i := 97) rfl) rfl

theorem gw_585 : Cond.methodLink "Collationer$Elements" (105 : Nat) ({ cls := "Collationer$Tailoring", name := "putWeights", desc := "(ILCollationer$Elements;)V" } : Jvm.MethodName) ∈ mGd := lk_3 (List.mem_of_getElem? (i := 105) rfl) rfl

theorem gw_586 : Cond.instanceMethod ({ cls := "Collationer$Tailoring", name := "putWeights", desc := "(ILCollationer$Elements;)V" } : Jvm.MethodName) ∈ mGd := lk_3 (List.mem_of_getElem? (i := 106) rfl) rfl

theorem gw_587 : Cond.selects "Collationer$Tailoring" ({ cls := "Collationer$Tailoring", name := "putWeights", desc := "(ILCollationer$Elements;)V" } : Jvm.MethodName) ({ cls := "Collationer$Tailoring", name := "putWeights", desc := "(ILCollationer$Elements;)V" } : Jvm.MethodName) ∈ mGd := lk_3 (List.mem_of_getElem? (i := 107) rfl) rfl

theorem gw_588 : Cond.code ({ cls := "Collationer$Tailoring", name := "putWeights", desc := "(ILCollationer$Elements;)V" } : Jvm.MethodName) prog_11_method_11_code (8 : Nat) (Option.none : Option FieldType) ∈ mGd := lk_3 (List.mem_of_getElem? (i := 108) rfl) rfl

theorem gw_584 : Cond.methodLink "Collationer$Elements" (112 : Nat) ({ cls := "java/lang/Math", name := "max", desc := "(II)I" } : Jvm.MethodName) ∈ mGd := lk_3 (List.mem_of_getElem? (i := 104) rfl) rfl

theorem gw_602 : Cond.methodLink "Collationer$Elements" (118 : Nat) ({ cls := "Collationer$Elements", name := "lastWeight", desc := "(ZI)I" } : Jvm.MethodName) ∈ mGd := lk_3 (List.mem_of_getElem? (i := 122) rfl) rfl

theorem gw_604 : Cond.instanceMethod ({ cls := "Collationer$Elements", name := "lastWeight", desc := "(ZI)I" } : Jvm.MethodName) ∈ mGd := lk_3 (List.mem_of_getElem? (i := 124) rfl) rfl

theorem gs_47 : Cond.selects "Collationer$Elements" ⟨"Collationer$Elements", "lastWeight", "(ZI)I"⟩ ⟨"Collationer$Elements", "lastWeight", "(ZI)I"⟩ ∈ mGd := lp_2 (q := (⟨"Collationer$Elements", "lastWeight", "(ZI)I"⟩, 6)) (List.mem_of_getElem? (i := 0) rfl)

theorem gw_605 : Cond.code ({ cls := "Collationer$Elements", name := "lastWeight", desc := "(ZI)I" } : Jvm.MethodName) prog_5_method_14_code (3 : Nat) (Option.some FieldType.int) ∈ mGd := lk_3 (List.mem_of_getElem? (i := 125) rfl) rfl

theorem gw_606 : Cond.methodLink "Collationer$Elements" (122 : Nat) ({ cls := "Collationer$Elements", name := "weightOn", desc := "(IZI)I" } : Jvm.MethodName) ∈ mGd := lk_3 (List.mem_of_getElem? (i := 126) rfl) rfl

theorem gw_608 : Cond.instanceMethod ({ cls := "Collationer$Elements", name := "weightOn", desc := "(IZI)I" } : Jvm.MethodName) ∈ mGd := lk_3 (List.mem_of_getElem? (i := 128) rfl) rfl

theorem gs_46 : Cond.selects "Collationer$Elements" ⟨"Collationer$Elements", "weightOn", "(IZI)I"⟩ ⟨"Collationer$Elements", "weightOn", "(IZI)I"⟩ ∈ mGd := lp_2 (q := (⟨"Collationer$Elements", "weightOn", "(IZI)I"⟩, 6)) (List.mem_of_getElem? (i := 1) rfl)

theorem gw_609 : Cond.code ({ cls := "Collationer$Elements", name := "weightOn", desc := "(IZI)I" } : Jvm.MethodName) prog_5_method_13_code (4 : Nat) (Option.some FieldType.int) ∈ mGd := lk_3 (List.mem_of_getElem? (i := 129) rfl) rfl

theorem gw_269 : Cond.methodLink "Collationer$Entry" (3 : Nat) ({ cls := "java/lang/Object", name := "<init>", desc := "()V" } : Jvm.MethodName) ∈ mGd := lk_2 (List.mem_of_getElem? (i := 29) rfl) rfl

theorem gw_273 : Cond.fieldLink "Collationer$Entry" (9 : Nat) "Collationer$Entry" "parent" "I" ∈ mGd := lk_2 (List.mem_of_getElem? (i := 33) rfl) rfl

theorem gw_270 : Cond.classLink "Collationer$Entry" (15 : Nat) "Collationer$Row" ∈ mGd := lk_2 (List.mem_of_getElem? (i := 30) rfl) rfl

theorem gw_271 : Cond.methodLink "Collationer$Entry" (17 : Nat) ({ cls := "Collationer$Row", name := "<init>", desc := "(I)V" } : Jvm.MethodName) ∈ mGd := lk_2 (List.mem_of_getElem? (i := 31) rfl) rfl

theorem gw_277 : Cond.fieldLink "Collationer$Entry" (20 : Nat) "Collationer$Entry" "locators" "LCollationer$Row;" ∈ mGd := lk_2 (List.mem_of_getElem? (i := 37) rfl) rfl

theorem gw_278 : Cond.fieldLink "Collationer$Entry" (24 : Nat) "Collationer$Entry" "staying" "LCollationer$Row;" ∈ mGd := lk_2 (List.mem_of_getElem? (i := 38) rfl) rfl

theorem gw_279 : Cond.fieldLink "Collationer$Entry" (27 : Nat) "Collationer$Entry" "seen" "I" ∈ mGd := lk_2 (List.mem_of_getElem? (i := 39) rfl) rfl

theorem gw_272 : Cond.fieldLink "Collationer$Entry" (30 : Nat) "Collationer$Entry" "textNumber" "I" ∈ mGd := lk_2 (List.mem_of_getElem? (i := 32) rfl) rfl

theorem gw_274 : Cond.fieldLink "Collationer$Entry" (33 : Nat) "Collationer$Entry" "indexSet" "I" ∈ mGd := lk_2 (List.mem_of_getElem? (i := 34) rfl) rfl

theorem gw_275 : Cond.fieldLink "Collationer$Entry" (36 : Nat) "Collationer$Entry" "formKind" "I" ∈ mGd := lk_2 (List.mem_of_getElem? (i := 35) rfl) rfl

theorem gw_276 : Cond.fieldLink "Collationer$Entry" (39 : Nat) "Collationer$Entry" "formSigns" "I" ∈ mGd := lk_2 (List.mem_of_getElem? (i := 36) rfl) rfl

theorem gw_995 : Cond.methodLink "Collationer$Entry" (42 : Nat) ({ cls := "Collationer$Entry", name := "rankOf", desc := "(I)I" } : Jvm.MethodName) ∈ mGd := lk_5 (List.mem_of_getElem? (i := 35) rfl) rfl

theorem gw_996 : Cond.static ({ cls := "Collationer$Entry", name := "rankOf", desc := "(I)I" } : Jvm.MethodName) ∈ mGd := lk_5 (List.mem_of_getElem? (i := 36) rfl) rfl

theorem gw_997 : Cond.code ({ cls := "Collationer$Entry", name := "rankOf", desc := "(I)I" } : Jvm.MethodName) prog_6_method_13_code (1 : Nat) (Option.some FieldType.int) ∈ mGd := lk_5 (List.mem_of_getElem? (i := 37) rfl) rfl

theorem gw_12 : Cond.initialized "Collationer$Entry" ∈ mGd := lk_1 (List.mem_of_getElem? (i := 12) rfl) rfl

theorem gw_992 : Cond.methodLink "Collationer$Entry" (46 : Nat) ({ cls := "Collationer$Entry", name := "locatorCode", desc := "(II)I" } : Jvm.MethodName) ∈ mGd := lk_5 (List.mem_of_getElem? (i := 32) rfl) rfl

theorem gw_993 : Cond.static ({ cls := "Collationer$Entry", name := "locatorCode", desc := "(II)I" } : Jvm.MethodName) ∈ mGd := lk_5 (List.mem_of_getElem? (i := 33) rfl) rfl

theorem gw_994 : Cond.code ({ cls := "Collationer$Entry", name := "locatorCode", desc := "(II)I" } : Jvm.MethodName) prog_6_method_14_code (2 : Nat) (Option.some FieldType.int) ∈ mGd := lk_5 (List.mem_of_getElem? (i := 34) rfl) rfl

theorem gw_998 : Cond.methodLink "Collationer$Entry" (50 : Nat) ({ cls := "Collationer$Row", name := "has", desc := "(I)Z" } : Jvm.MethodName) ∈ mGd := lk_5 (List.mem_of_getElem? (i := 38) rfl) rfl

theorem gw_1004 : Cond.methodLink "Collationer$Entry" (54 : Nat) ({ cls := "Collationer$Row", name := "size", desc := "()I" } : Jvm.MethodName) ∈ mGd := lk_5 (List.mem_of_getElem? (i := 44) rfl) rfl

theorem gw_1005 : Cond.methodLink "Collationer$Entry" (58 : Nat) ({ cls := "Collationer$Row", name := "at", desc := "(I)I" } : Jvm.MethodName) ∈ mGd := lk_5 (List.mem_of_getElem? (i := 45) rfl) rfl

theorem gw_1006 : Cond.methodLink "Collationer$Entry" (61 : Nat) ({ cls := "Collationer$Row", name := "insert", desc := "(II)V" } : Jvm.MethodName) ∈ mGd := lk_5 (List.mem_of_getElem? (i := 46) rfl) rfl

theorem gw_652 : Cond.instanceMethod ({ cls := "Collationer$Row", name := "insert", desc := "(II)V" } : Jvm.MethodName) ∈ mGd := lk_3 (List.mem_of_getElem? (i := 172) rfl) rfl

theorem gw_653 : Cond.selects "Collationer$Row" ({ cls := "Collationer$Row", name := "insert", desc := "(II)V" } : Jvm.MethodName) ({ cls := "Collationer$Row", name := "insert", desc := "(II)V" } : Jvm.MethodName) ∈ mGd := lk_3 (List.mem_of_getElem? (i := 173) rfl) rfl

theorem gw_654 : Cond.code ({ cls := "Collationer$Row", name := "insert", desc := "(II)V" } : Jvm.MethodName) prog_10_method_7_code (4 : Nat) (Option.none : Option FieldType) ∈ mGd := lk_3 (List.mem_of_getElem? (i := 174) rfl) rfl

theorem gw_280 : Cond.fieldLink "Collationer$Entry" (86 : Nat) "Collationer$Entry" "seenAlso" "I" ∈ mGd := lk_2 (List.mem_of_getElem? (i := 40) rfl) rfl

theorem gw_1163 : Cond.methodLink "Collationer$Entry" (89 : Nat) ({ cls := "java/lang/Integer", name := "bitCount", desc := "(I)I" } : Jvm.MethodName) ∈ mGd := lk_5 (List.mem_of_getElem? (i := 203) rfl) rfl

theorem gw_1164 : Cond.static ({ cls := "java/lang/Integer", name := "bitCount", desc := "(I)I" } : Jvm.MethodName) ∈ mGd := lk_5 (List.mem_of_getElem? (i := 204) rfl) rfl

theorem gw_1165 : Cond.code ({ cls := "java/lang/Integer", name := "bitCount", desc := "(I)I" } : Jvm.MethodName) prog_18_method_49_code (1 : Nat) (Option.some FieldType.int) ∈ mGd := lk_5 (List.mem_of_getElem? (i := 205) rfl) rfl

theorem gw_19 : Cond.initialized "java/lang/Integer" ∈ mGd := lk_1 (List.mem_of_getElem? (i := 19) rfl) rfl

theorem gw_232 : Cond.methodLink "Collationer$Groups" (3 : Nat) ({ cls := "java/lang/Object", name := "<init>", desc := "()V" } : Jvm.MethodName) ∈ mGd := lk_1 (List.mem_of_getElem? (i := 232) rfl) rfl

theorem gw_233 : Cond.classLink "Collationer$Groups" (9 : Nat) "Collationer$Row" ∈ mGd := lk_1 (List.mem_of_getElem? (i := 233) rfl) rfl

theorem gw_234 : Cond.methodLink "Collationer$Groups" (11 : Nat) ({ cls := "Collationer$Row", name := "<init>", desc := "(I)V" } : Jvm.MethodName) ∈ mGd := lk_1 (List.mem_of_getElem? (i := 234) rfl) rfl

theorem gw_235 : Cond.fieldLink "Collationer$Groups" (14 : Nat) "Collationer$Groups" "sorts" "LCollationer$Row;" ∈ mGd := lk_1 (List.mem_of_getElem? (i := 235) rfl) rfl

theorem gw_236 : Cond.fieldLink "Collationer$Groups" (20 : Nat) "Collationer$Groups" "firsts" "LCollationer$Row;" ∈ mGd := lk_1 (List.mem_of_getElem? (i := 236) rfl) rfl

theorem gw_237 : Cond.fieldLink "Collationer$Groups" (23 : Nat) "Collationer$Groups" "lasts" "LCollationer$Row;" ∈ mGd := lk_1 (List.mem_of_getElem? (i := 237) rfl) rfl

theorem gw_1136 : Cond.methodLink "Collationer$Groups" (26 : Nat) ({ cls := "Collationer$Row", name := "size", desc := "()I" } : Jvm.MethodName) ∈ mGd := lk_5 (List.mem_of_getElem? (i := 176) rfl) rfl

theorem gw_1245 : Cond.constant "Collationer$Groups" (30 : Nat) (1000000 : Int32) ∈ mGd := lk_6 (List.mem_of_getElem? (i := 45) rfl) rfl

theorem gw_1137 : Cond.methodLink "Collationer$Groups" (31 : Nat) ({ cls := "Collationer$Row", name := "at", desc := "(I)I" } : Jvm.MethodName) ∈ mGd := lk_5 (List.mem_of_getElem? (i := 177) rfl) rfl

theorem gw_1135 : Cond.methodLink "Collationer$Groups" (35 : Nat) ({ cls := "Collationer$Row", name := "clear", desc := "()V" } : Jvm.MethodName) ∈ mGd := lk_5 (List.mem_of_getElem? (i := 175) rfl) rfl

theorem gw_1138 : Cond.methodLink "Collationer$Groups" (38 : Nat) ({ cls := "Collationer$Entry", name := "sortOf", desc := "(I)I" } : Jvm.MethodName) ∈ mGd := lk_5 (List.mem_of_getElem? (i := 178) rfl) rfl

theorem gw_1139 : Cond.static ({ cls := "Collationer$Entry", name := "sortOf", desc := "(I)I" } : Jvm.MethodName) ∈ mGd := lk_5 (List.mem_of_getElem? (i := 179) rfl) rfl

theorem gw_1140 : Cond.code ({ cls := "Collationer$Entry", name := "sortOf", desc := "(I)I" } : Jvm.MethodName) prog_6_method_16_code (1 : Nat) (Option.some FieldType.int) ∈ mGd := lk_5 (List.mem_of_getElem? (i := 180) rfl) rfl

theorem gw_1141 : Cond.methodLink "Collationer$Groups" (43 : Nat) ({ cls := "Collationer$Entry", name := "pageOf", desc := "(I)I" } : Jvm.MethodName) ∈ mGd := lk_5 (List.mem_of_getElem? (i := 181) rfl) rfl

theorem gw_1142 : Cond.static ({ cls := "Collationer$Entry", name := "pageOf", desc := "(I)I" } : Jvm.MethodName) ∈ mGd := lk_5 (List.mem_of_getElem? (i := 182) rfl) rfl

theorem gw_1143 : Cond.code ({ cls := "Collationer$Entry", name := "pageOf", desc := "(I)I" } : Jvm.MethodName) prog_6_method_15_code (1 : Nat) (Option.some FieldType.int) ∈ mGd := lk_5 (List.mem_of_getElem? (i := 183) rfl) rfl

theorem gw_1144 : Cond.methodLink "Collationer$Groups" (46 : Nat) ({ cls := "Collationer$Groups", name := "addPage", desc := "(II)V" } : Jvm.MethodName) ∈ mGd := lk_5 (List.mem_of_getElem? (i := 184) rfl) rfl

theorem gw_1146 : Cond.instanceMethod ({ cls := "Collationer$Groups", name := "addPage", desc := "(II)V" } : Jvm.MethodName) ∈ mGd := lk_5 (List.mem_of_getElem? (i := 186) rfl) rfl

theorem gs_75 : Cond.selects "Collationer$Groups" ⟨"Collationer$Groups", "addPage", "(II)V"⟩ ⟨"Collationer$Groups", "addPage", "(II)V"⟩ ∈ mGd := lp_3 (q := (⟨"Collationer$Groups", "addPage", "(II)V"⟩, 3)) (List.mem_of_getElem? (i := 13) rfl)

theorem gw_1147 : Cond.code ({ cls := "Collationer$Groups", name := "addPage", desc := "(II)V" } : Jvm.MethodName) prog_7_method_5_code (4 : Nat) (Option.none : Option FieldType) ∈ mGd := lk_5 (List.mem_of_getElem? (i := 187) rfl) rfl

theorem gw_10 : Cond.initialized "Collationer$Groups" ∈ mGd := lk_1 (List.mem_of_getElem? (i := 10) rfl) rfl

theorem gw_1150 : Cond.methodLink "Collationer$Groups" (50 : Nat) ({ cls := "Collationer$Groups", name := "joinFrom", desc := "(I)V" } : Jvm.MethodName) ∈ mGd := lk_5 (List.mem_of_getElem? (i := 190) rfl) rfl

theorem gw_1152 : Cond.instanceMethod ({ cls := "Collationer$Groups", name := "joinFrom", desc := "(I)V" } : Jvm.MethodName) ∈ mGd := lk_5 (List.mem_of_getElem? (i := 192) rfl) rfl

theorem gs_76 : Cond.selects "Collationer$Groups" ⟨"Collationer$Groups", "joinFrom", "(I)V"⟩ ⟨"Collationer$Groups", "joinFrom", "(I)V"⟩ ∈ mGd := lp_3 (q := (⟨"Collationer$Groups", "joinFrom", "(I)V"⟩, 3)) (List.mem_of_getElem? (i := 14) rfl)

theorem gw_1153 : Cond.code ({ cls := "Collationer$Groups", name := "joinFrom", desc := "(I)V" } : Jvm.MethodName) prog_7_method_6_code (4 : Nat) (Option.none : Option FieldType) ∈ mGd := lk_5 (List.mem_of_getElem? (i := 193) rfl) rfl

theorem gw_1148 : Cond.methodLink "Collationer$Groups" (53 : Nat) ({ cls := "Collationer$Row", name := "set", desc := "(II)V" } : Jvm.MethodName) ∈ mGd := lk_5 (List.mem_of_getElem? (i := 188) rfl) rfl

theorem gw_1149 : Cond.methodLink "Collationer$Groups" (56 : Nat) ({ cls := "Collationer$Row", name := "put", desc := "(I)V" } : Jvm.MethodName) ∈ mGd := lk_5 (List.mem_of_getElem? (i := 189) rfl) rfl

theorem gw_1154 : Cond.methodLink "Collationer$Groups" (59 : Nat) ({ cls := "Collationer$Row", name := "removeAt", desc := "(I)V" } : Jvm.MethodName) ∈ mGd := lk_5 (List.mem_of_getElem? (i := 194) rfl) rfl

theorem gw_928 : Cond.instanceMethod ({ cls := "Collationer$Row", name := "removeAt", desc := "(I)V" } : Jvm.MethodName) ∈ mGd := lk_4 (List.mem_of_getElem? (i := 208) rfl) rfl

theorem gw_929 : Cond.selects "Collationer$Row" ({ cls := "Collationer$Row", name := "removeAt", desc := "(I)V" } : Jvm.MethodName) ({ cls := "Collationer$Row", name := "removeAt", desc := "(I)V" } : Jvm.MethodName) ∈ mGd := lk_4 (List.mem_of_getElem? (i := 209) rfl) rfl

theorem gw_930 : Cond.code ({ cls := "Collationer$Row", name := "removeAt", desc := "(I)V" } : Jvm.MethodName) prog_10_method_8_code (3 : Nat) (Option.none : Option FieldType) ∈ mGd := lk_4 (List.mem_of_getElem? (i := 210) rfl) rfl

theorem gw_249 : Cond.methodLink "Collationer$Index" (3 : Nat) ({ cls := "java/lang/Object", name := "<init>", desc := "()V" } : Jvm.MethodName) ∈ mGd := lk_2 (List.mem_of_getElem? (i := 9) rfl) rfl

theorem gw_250 : Cond.classLink "Collationer$Index" (9 : Nat) "Collationer$Row" ∈ mGd := lk_2 (List.mem_of_getElem? (i := 10) rfl) rfl

theorem gw_251 : Cond.methodLink "Collationer$Index" (11 : Nat) ({ cls := "Collationer$Row", name := "<init>", desc := "(I)V" } : Jvm.MethodName) ∈ mGd := lk_2 (List.mem_of_getElem? (i := 11) rfl) rfl

theorem gw_252 : Cond.fieldLink "Collationer$Index" (14 : Nat) "Collationer$Index" "order" "LCollationer$Row;" ∈ mGd := lk_2 (List.mem_of_getElem? (i := 12) rfl) rfl

theorem gw_253 : Cond.fieldLink "Collationer$Index" (20 : Nat) "Collationer$Index" "firstWeights" "LCollationer$Row;" ∈ mGd := lk_2 (List.mem_of_getElem? (i := 13) rfl) rfl

theorem gw_254 : Cond.fieldLink "Collationer$Index" (23 : Nat) "Collationer$Index" "before" "LCollationer$Row;" ∈ mGd := lk_2 (List.mem_of_getElem? (i := 14) rfl) rfl

theorem gw_255 : Cond.fieldLink "Collationer$Index" (26 : Nat) "Collationer$Index" "isOrdered" "Z" ∈ mGd := lk_2 (List.mem_of_getElem? (i := 15) rfl) rfl

theorem gw_462 : Cond.methodLink "Collationer$Index" (30 : Nat) ({ cls := "Collationer$Row", name := "clear", desc := "()V" } : Jvm.MethodName) ∈ mGd := lk_2 (List.mem_of_getElem? (i := 222) rfl) rfl

theorem gw_629 : Cond.methodLink "Collationer$Index" (33 : Nat) ({ cls := "Collationer$Row", name := "put", desc := "(I)V" } : Jvm.MethodName) ∈ mGd := lk_3 (List.mem_of_getElem? (i := 149) rfl) rfl

theorem gw_1107 : Cond.methodLink "Collationer$Index" (36 : Nat) ({ cls := "Collationer$Row", name := "at", desc := "(I)I" } : Jvm.MethodName) ∈ mGd := lk_5 (List.mem_of_getElem? (i := 147) rfl) rfl

theorem gw_667 : Cond.methodLink "Collationer$Index" (40 : Nat) ({ cls := "Collationer$Row", name := "copy", desc := "(LCollationer$Row;)V" } : Jvm.MethodName) ∈ mGd := lk_3 (List.mem_of_getElem? (i := 187) rfl) rfl

theorem gw_668 : Cond.instanceMethod ({ cls := "Collationer$Row", name := "copy", desc := "(LCollationer$Row;)V" } : Jvm.MethodName) ∈ mGd := lk_3 (List.mem_of_getElem? (i := 188) rfl) rfl

theorem gw_669 : Cond.selects "Collationer$Row" ({ cls := "Collationer$Row", name := "copy", desc := "(LCollationer$Row;)V" } : Jvm.MethodName) ({ cls := "Collationer$Row", name := "copy", desc := "(LCollationer$Row;)V" } : Jvm.MethodName) ∈ mGd := lk_3 (List.mem_of_getElem? (i := 189) rfl) rfl

theorem gw_670 : Cond.code ({ cls := "Collationer$Row", name := "copy", desc := "(LCollationer$Row;)V" } : Jvm.MethodName) prog_10_method_11_code (2 : Nat) (Option.none : Option FieldType) ∈ mGd := lk_3 (List.mem_of_getElem? (i := 190) rfl) rfl

theorem gw_160 : Cond.methodLink "Collationer$Pins" (3 : Nat) ({ cls := "java/lang/Object", name := "<init>", desc := "()V" } : Jvm.MethodName) ∈ mGd := lk_1 (List.mem_of_getElem? (i := 160) rfl) rfl

theorem gw_161 : Cond.classLink "Collationer$Pins" (9 : Nat) "Collationer$Row" ∈ mGd := lk_1 (List.mem_of_getElem? (i := 161) rfl) rfl

theorem gw_162 : Cond.methodLink "Collationer$Pins" (11 : Nat) ({ cls := "Collationer$Row", name := "<init>", desc := "(I)V" } : Jvm.MethodName) ∈ mGd := lk_1 (List.mem_of_getElem? (i := 162) rfl) rfl

theorem gw_163 : Cond.fieldLink "Collationer$Pins" (14 : Nat) "Collationer$Pins" "pages" "LCollationer$Row;" ∈ mGd := lk_1 (List.mem_of_getElem? (i := 163) rfl) rfl

theorem gw_164 : Cond.fieldLink "Collationer$Pins" (20 : Nat) "Collationer$Pins" "nexts" "LCollationer$Row;" ∈ mGd := lk_1 (List.mem_of_getElem? (i := 164) rfl) rfl

theorem gw_50 : Cond.methodLink "Collationer$Row" (3 : Nat) ({ cls := "java/lang/Object", name := "<init>", desc := "()V" } : Jvm.MethodName) ∈ mGd := lk_1 (List.mem_of_getElem? (i := 50) rfl) rfl

theorem gw_51 : Cond.methodLink "Collationer$Row" (9 : Nat) ({ cls := "java/lang/Math", name := "max", desc := "(II)I" } : Jvm.MethodName) ∈ mGd := lk_1 (List.mem_of_getElem? (i := 51) rfl) rfl

theorem gw_54 : Cond.fieldLink "Collationer$Row" (15 : Nat) "Collationer$Row" "cells" "[I" ∈ mGd := lk_1 (List.mem_of_getElem? (i := 54) rfl) rfl

theorem gw_55 : Cond.fieldLink "Collationer$Row" (21 : Nat) "Collationer$Row" "size" "I" ∈ mGd := lk_1 (List.mem_of_getElem? (i := 55) rfl) rfl

theorem gw_487 : Cond.methodLink "Collationer$Row" (25 : Nat) ({ cls := "Collationer$Row", name := "size", desc := "()I" } : Jvm.MethodName) ∈ mGd := lk_3 (List.mem_of_getElem? (i := 7) rfl) rfl

theorem gw_488 : Cond.methodLink "Collationer$Row" (28 : Nat) ({ cls := "Collationer$Row", name := "at", desc := "(I)I" } : Jvm.MethodName) ∈ mGd := lk_3 (List.mem_of_getElem? (i := 8) rfl) rfl

theorem gw_489 : Cond.methodLink "Collationer$Row" (32 : Nat) ({ cls := "Collationer$Row", name := "put", desc := "(I)V" } : Jvm.MethodName) ∈ mGd := lk_3 (List.mem_of_getElem? (i := 9) rfl) rfl

theorem gw_671 : Cond.methodLink "Collationer$Row" (36 : Nat) ({ cls := "Collationer$Row", name := "clear", desc := "()V" } : Jvm.MethodName) ∈ mGd := lk_3 (List.mem_of_getElem? (i := 191) rfl) rfl

theorem gw_672 : Cond.methodLink "Collationer$Row" (39 : Nat) ({ cls := "Collationer$Row", name := "append", desc := "(LCollationer$Row;II)V" } : Jvm.MethodName) ∈ mGd := lk_3 (List.mem_of_getElem? (i := 192) rfl) rfl

theorem gw_484 : Cond.instanceMethod ({ cls := "Collationer$Row", name := "append", desc := "(LCollationer$Row;II)V" } : Jvm.MethodName) ∈ mGd := lk_3 (List.mem_of_getElem? (i := 4) rfl) rfl

theorem gw_485 : Cond.selects "Collationer$Row" ({ cls := "Collationer$Row", name := "append", desc := "(LCollationer$Row;II)V" } : Jvm.MethodName) ({ cls := "Collationer$Row", name := "append", desc := "(LCollationer$Row;II)V" } : Jvm.MethodName) ∈ mGd := lk_3 (List.mem_of_getElem? (i := 5) rfl) rfl

theorem gw_486 : Cond.code ({ cls := "Collationer$Row", name := "append", desc := "(LCollationer$Row;II)V" } : Jvm.MethodName) prog_10_method_10_code (5 : Nat) (Option.none : Option FieldType) ∈ mGd := lk_3 (List.mem_of_getElem? (i := 6) rfl) rfl

theorem gw_911 : Cond.methodLink "Collationer$Row" (43 : Nat) ({ cls := "Collationer$Row", name := "placeOf", desc := "(I)I" } : Jvm.MethodName) ∈ mGd := lk_4 (List.mem_of_getElem? (i := 191) rfl) rfl

theorem gw_555 : Cond.instanceMethod ({ cls := "Collationer$Row", name := "placeOf", desc := "(I)I" } : Jvm.MethodName) ∈ mGd := lk_3 (List.mem_of_getElem? (i := 75) rfl) rfl

theorem gw_556 : Cond.selects "Collationer$Row" ({ cls := "Collationer$Row", name := "placeOf", desc := "(I)I" } : Jvm.MethodName) ({ cls := "Collationer$Row", name := "placeOf", desc := "(I)I" } : Jvm.MethodName) ∈ mGd := lk_3 (List.mem_of_getElem? (i := 76) rfl) rfl

theorem gw_557 : Cond.code ({ cls := "Collationer$Row", name := "placeOf", desc := "(I)I" } : Jvm.MethodName) prog_10_method_12_code (3 : Nat) (Option.some FieldType.int) ∈ mGd := lk_3 (List.mem_of_getElem? (i := 77) rfl) rfl

theorem gw_68 : Cond.methodLink "Collationer$Tailoring" (3 : Nat) ({ cls := "java/lang/Object", name := "<init>", desc := "()V" } : Jvm.MethodName) ∈ mGd := lk_1 (List.mem_of_getElem? (i := 68) rfl) rfl

theorem gw_69 : Cond.classLink "Collationer$Tailoring" (9 : Nat) "Collationer$Row" ∈ mGd := lk_1 (List.mem_of_getElem? (i := 69) rfl) rfl

theorem gw_70 : Cond.methodLink "Collationer$Tailoring" (11 : Nat) ({ cls := "Collationer$Row", name := "<init>", desc := "(I)V" } : Jvm.MethodName) ∈ mGd := lk_1 (List.mem_of_getElem? (i := 70) rfl) rfl

theorem gw_98 : Cond.fieldLink "Collationer$Tailoring" (14 : Nat) "Collationer$Tailoring" "items" "LCollationer$Row;" ∈ mGd := lk_1 (List.mem_of_getElem? (i := 98) rfl) rfl

theorem gw_99 : Cond.fieldLink "Collationer$Tailoring" (20 : Nat) "Collationer$Tailoring" "levels" "LCollationer$Row;" ∈ mGd := lk_1 (List.mem_of_getElem? (i := 99) rfl) rfl

theorem gw_100 : Cond.fieldLink "Collationer$Tailoring" (23 : Nat) "Collationer$Tailoring" "firsts" "LCollationer$Row;" ∈ mGd := lk_1 (List.mem_of_getElem? (i := 100) rfl) rfl

theorem gw_101 : Cond.fieldLink "Collationer$Tailoring" (26 : Nat) "Collationer$Tailoring" "seconds" "LCollationer$Row;" ∈ mGd := lk_1 (List.mem_of_getElem? (i := 101) rfl) rfl

theorem gw_102 : Cond.fieldLink "Collationer$Tailoring" (29 : Nat) "Collationer$Tailoring" "thirds" "LCollationer$Row;" ∈ mGd := lk_1 (List.mem_of_getElem? (i := 102) rfl) rfl

theorem gw_103 : Cond.fieldLink "Collationer$Tailoring" (32 : Nat) "Collationer$Tailoring" "severalItems" "LCollationer$Row;" ∈ mGd := lk_1 (List.mem_of_getElem? (i := 103) rfl) rfl

theorem gw_104 : Cond.fieldLink "Collationer$Tailoring" (35 : Nat) "Collationer$Tailoring" "severalSigns" "LCollationer$Row;" ∈ mGd := lk_1 (List.mem_of_getElem? (i := 104) rfl) rfl

theorem gw_105 : Cond.fieldLink "Collationer$Tailoring" (38 : Nat) "Collationer$Tailoring" "hows" "LCollationer$Row;" ∈ mGd := lk_1 (List.mem_of_getElem? (i := 105) rfl) rfl

theorem gw_106 : Cond.fieldLink "Collationer$Tailoring" (41 : Nat) "Collationer$Tailoring" "anchorCodes" "LCollationer$Row;" ∈ mGd := lk_1 (List.mem_of_getElem? (i := 106) rfl) rfl

theorem gw_107 : Cond.fieldLink "Collationer$Tailoring" (44 : Nat) "Collationer$Tailoring" "itemCodes" "LCollationer$Row;" ∈ mGd := lk_1 (List.mem_of_getElem? (i := 107) rfl) rfl

theorem gw_132 : Cond.arrayClass FieldType.boolean ∈ mGd := lk_1 (List.mem_of_getElem? (i := 132) rfl) rfl

theorem gw_108 : Cond.fieldLink "Collationer$Tailoring" (47 : Nat) "Collationer$Tailoring" "options" "[Z" ∈ mGd := lk_1 (List.mem_of_getElem? (i := 108) rfl) rfl

theorem gw_71 : Cond.methodLink "Collationer$Tailoring" (51 : Nat) ({ cls := "Collationer$Tailoring", name := "addItem", desc := "(II)V" } : Jvm.MethodName) ∈ mGd := lk_1 (List.mem_of_getElem? (i := 71) rfl) rfl

theorem gw_73 : Cond.instanceMethod ({ cls := "Collationer$Tailoring", name := "addItem", desc := "(II)V" } : Jvm.MethodName) ∈ mGd := lk_1 (List.mem_of_getElem? (i := 73) rfl) rfl

theorem gs_106 : Cond.selects "Collationer$Tailoring" ⟨"Collationer$Tailoring", "addItem", "(II)V"⟩ ⟨"Collationer$Tailoring", "addItem", "(II)V"⟩ ∈ mGd := lp_1 (q := (⟨"Collationer$Tailoring", "addItem", "(II)V"⟩, 11)) (List.mem_of_getElem? (i := 0) rfl)

theorem gw_74 : Cond.code ({ cls := "Collationer$Tailoring", name := "addItem", desc := "(II)V" } : Jvm.MethodName) prog_11_method_2_code (3 : Nat) (Option.none : Option FieldType) ∈ mGd := lk_1 (List.mem_of_getElem? (i := 74) rfl) rfl

theorem gw_82 : Cond.methodLink "Collationer$Tailoring" (55 : Nat) ({ cls := "Collationer$Tailoring", name := "weigh", desc := "()V" } : Jvm.MethodName) ∈ mGd := lk_1 (List.mem_of_getElem? (i := 82) rfl) rfl

theorem gw_84 : Cond.instanceMethod ({ cls := "Collationer$Tailoring", name := "weigh", desc := "()V" } : Jvm.MethodName) ∈ mGd := lk_1 (List.mem_of_getElem? (i := 84) rfl) rfl

theorem gs_107 : Cond.selects "Collationer$Tailoring" ⟨"Collationer$Tailoring", "weigh", "()V"⟩ ⟨"Collationer$Tailoring", "weigh", "()V"⟩ ∈ mGd := lp_1 (q := (⟨"Collationer$Tailoring", "weigh", "()V"⟩, 11)) (List.mem_of_getElem? (i := 1) rfl)

theorem gw_85 : Cond.code ({ cls := "Collationer$Tailoring", name := "weigh", desc := "()V" } : Jvm.MethodName) prog_11_method_3_code (6 : Nat) (Option.none : Option FieldType) ∈ mGd := lk_1 (List.mem_of_getElem? (i := 85) rfl) rfl

theorem gw_78 : Cond.methodLink "Collationer$Tailoring" (62 : Nat) ({ cls := "Collationer$Row", name := "put", desc := "(I)V" } : Jvm.MethodName) ∈ mGd := lk_1 (List.mem_of_getElem? (i := 78) rfl) rfl

theorem gw_86 : Cond.methodLink "Collationer$Tailoring" (65 : Nat) ({ cls := "Collationer$Row", name := "clear", desc := "()V" } : Jvm.MethodName) ∈ mGd := lk_1 (List.mem_of_getElem? (i := 86) rfl) rfl

theorem gw_90 : Cond.methodLink "Collationer$Tailoring" (68 : Nat) ({ cls := "Collationer$Row", name := "size", desc := "()I" } : Jvm.MethodName) ∈ mGd := lk_1 (List.mem_of_getElem? (i := 90) rfl) rfl

theorem gw_94 : Cond.methodLink "Collationer$Tailoring" (72 : Nat) ({ cls := "Collationer$Row", name := "at", desc := "(I)I" } : Jvm.MethodName) ∈ mGd := lk_1 (List.mem_of_getElem? (i := 94) rfl) rfl

theorem gw_1085 : Cond.constant "Collationer$Tailoring" (75 : Nat) (1000000 : Int32) ∈ mGd := lk_5 (List.mem_of_getElem? (i := 125) rfl) rfl

theorem gw_554 : Cond.methodLink "Collationer$Tailoring" (76 : Nat) ({ cls := "Collationer$Row", name := "placeOf", desc := "(I)I" } : Jvm.MethodName) ∈ mGd := lk_3 (List.mem_of_getElem? (i := 74) rfl) rfl

theorem gw_558 : Cond.methodLink "Collationer$Tailoring" (79 : Nat) ({ cls := "java/lang/Math", name := "max", desc := "(II)I" } : Jvm.MethodName) ∈ mGd := lk_3 (List.mem_of_getElem? (i := 78) rfl) rfl

theorem gw_590 : Cond.static ({ cls := "Collationer", name := "signsIn", desc := "(I)I" } : Jvm.MethodName) ∈ mGd := lk_3 (List.mem_of_getElem? (i := 110) rfl) rfl

theorem gw_591 : Cond.code ({ cls := "Collationer", name := "signsIn", desc := "(I)I" } : Jvm.MethodName) prog_1_method_60_code (1 : Nat) (Option.some FieldType.int) ∈ mGd := lk_3 (List.mem_of_getElem? (i := 111) rfl) rfl

theorem gw_593 : Cond.static ({ cls := "Collationer", name := "signIn", desc := "(II)I" } : Jvm.MethodName) ∈ mGd := lk_3 (List.mem_of_getElem? (i := 113) rfl) rfl

theorem gw_594 : Cond.code ({ cls := "Collationer", name := "signIn", desc := "(II)I" } : Jvm.MethodName) prog_1_method_61_code (4 : Nat) (Option.some FieldType.int) ∈ mGd := lk_3 (List.mem_of_getElem? (i := 114) rfl) rfl

theorem gw_596 : Cond.methodLink "Collationer$Tailoring" (91 : Nat) ({ cls := "Collationer$Elements", name := "put", desc := "(III)V" } : Jvm.MethodName) ∈ mGd := lk_3 (List.mem_of_getElem? (i := 116) rfl) rfl

theorem gw_898 : Cond.methodLink "Collationer$Tailoring" (96 : Nat) ({ cls := "Collationer$Tailoring", name := "canBeItem", desc := "(I)Z" } : Jvm.MethodName) ∈ mGd := lk_4 (List.mem_of_getElem? (i := 178) rfl) rfl

theorem gw_899 : Cond.static ({ cls := "Collationer$Tailoring", name := "canBeItem", desc := "(I)Z" } : Jvm.MethodName) ∈ mGd := lk_4 (List.mem_of_getElem? (i := 179) rfl) rfl

theorem gw_900 : Cond.code ({ cls := "Collationer$Tailoring", name := "canBeItem", desc := "(I)Z" } : Jvm.MethodName) prog_11_method_13_code (2 : Nat) (Option.some FieldType.boolean) ∈ mGd := lk_4 (List.mem_of_getElem? (i := 180) rfl) rfl

theorem gw_903 : Cond.methodLink "Collationer$Tailoring" (100 : Nat) ({ cls := "Collationer$Tailoring", name := "canSortAs", desc := "(II)Z" } : Jvm.MethodName) ∈ mGd := lk_4 (List.mem_of_getElem? (i := 183) rfl) rfl

theorem gw_905 : Cond.instanceMethod ({ cls := "Collationer$Tailoring", name := "canSortAs", desc := "(II)Z" } : Jvm.MethodName) ∈ mGd := lk_4 (List.mem_of_getElem? (i := 185) rfl) rfl

theorem gs_118 : Cond.selects "Collationer$Tailoring" ⟨"Collationer$Tailoring", "canSortAs", "(II)Z"⟩ ⟨"Collationer$Tailoring", "canSortAs", "(II)Z"⟩ ∈ mGd := lp_2 (q := (⟨"Collationer$Tailoring", "canSortAs", "(II)Z"⟩, 11)) (List.mem_of_getElem? (i := 13) rfl)

theorem gw_906 : Cond.code ({ cls := "Collationer$Tailoring", name := "canSortAs", desc := "(II)Z" } : Jvm.MethodName) prog_11_method_14_code (5 : Nat) (Option.some FieldType.boolean) ∈ mGd := lk_4 (List.mem_of_getElem? (i := 186) rfl) rfl

theorem gw_907 : Cond.methodLink "Collationer$Tailoring" (104 : Nat) ({ cls := "Collationer$Row", name := "has", desc := "(I)Z" } : Jvm.MethodName) ∈ mGd := lk_4 (List.mem_of_getElem? (i := 187) rfl) rfl

theorem gw_912 : Cond.methodLink "Collationer$Tailoring" (113 : Nat) ({ cls := "Collationer$Tailoring", name := "isOneOfSeveral", desc := "(I)Z" } : Jvm.MethodName) ∈ mGd := lk_4 (List.mem_of_getElem? (i := 192) rfl) rfl

theorem gw_914 : Cond.instanceMethod ({ cls := "Collationer$Tailoring", name := "isOneOfSeveral", desc := "(I)Z" } : Jvm.MethodName) ∈ mGd := lk_4 (List.mem_of_getElem? (i := 194) rfl) rfl

theorem gs_119 : Cond.selects "Collationer$Tailoring" ⟨"Collationer$Tailoring", "isOneOfSeveral", "(I)Z"⟩ ⟨"Collationer$Tailoring", "isOneOfSeveral", "(I)Z"⟩ ∈ mGd := lp_2 (q := (⟨"Collationer$Tailoring", "isOneOfSeveral", "(I)Z"⟩, 11)) (List.mem_of_getElem? (i := 14) rfl)

theorem gw_915 : Cond.code ({ cls := "Collationer$Tailoring", name := "isOneOfSeveral", desc := "(I)Z" } : Jvm.MethodName) prog_11_method_15_code (5 : Nat) (Option.some FieldType.boolean) ∈ mGd := lk_4 (List.mem_of_getElem? (i := 195) rfl) rfl

theorem gw_921 : Cond.methodLink "Collationer$Tailoring" (116 : Nat) ({ cls := "Collationer$Tailoring", name := "leaveList", desc := "(I)V" } : Jvm.MethodName) ∈ mGd := lk_4 (List.mem_of_getElem? (i := 201) rfl) rfl

theorem gw_923 : Cond.instanceMethod ({ cls := "Collationer$Tailoring", name := "leaveList", desc := "(I)V" } : Jvm.MethodName) ∈ mGd := lk_4 (List.mem_of_getElem? (i := 203) rfl) rfl

theorem gs_121 : Cond.selects "Collationer$Tailoring" ⟨"Collationer$Tailoring", "leaveList", "(I)V"⟩ ⟨"Collationer$Tailoring", "leaveList", "(I)V"⟩ ∈ mGd := lp_2 (q := (⟨"Collationer$Tailoring", "leaveList", "(I)V"⟩, 11)) (List.mem_of_getElem? (i := 15) rfl)

theorem gw_924 : Cond.code ({ cls := "Collationer$Tailoring", name := "leaveList", desc := "(I)V" } : Jvm.MethodName) prog_11_method_17_code (3 : Nat) (Option.none : Option FieldType) ∈ mGd := lk_4 (List.mem_of_getElem? (i := 204) rfl) rfl

theorem gw_931 : Cond.methodLink "Collationer$Tailoring" (119 : Nat) ({ cls := "Collationer$Tailoring", name := "leaveSeveral", desc := "(I)V" } : Jvm.MethodName) ∈ mGd := lk_4 (List.mem_of_getElem? (i := 211) rfl) rfl

theorem gw_933 : Cond.instanceMethod ({ cls := "Collationer$Tailoring", name := "leaveSeveral", desc := "(I)V" } : Jvm.MethodName) ∈ mGd := lk_4 (List.mem_of_getElem? (i := 213) rfl) rfl

theorem gs_122 : Cond.selects "Collationer$Tailoring" ⟨"Collationer$Tailoring", "leaveSeveral", "(I)V"⟩ ⟨"Collationer$Tailoring", "leaveSeveral", "(I)V"⟩ ∈ mGd := lp_3 (q := (⟨"Collationer$Tailoring", "leaveSeveral", "(I)V"⟩, 11)) (List.mem_of_getElem? (i := 0) rfl)

theorem gw_934 : Cond.code ({ cls := "Collationer$Tailoring", name := "leaveSeveral", desc := "(I)V" } : Jvm.MethodName) prog_11_method_18_code (3 : Nat) (Option.none : Option FieldType) ∈ mGd := lk_4 (List.mem_of_getElem? (i := 214) rfl) rfl

theorem gw_935 : Cond.methodLink "Collationer$Tailoring" (122 : Nat) ({ cls := "Collationer$Tailoring", name := "putAhead", desc := "(III)V" } : Jvm.MethodName) ∈ mGd := lk_4 (List.mem_of_getElem? (i := 215) rfl) rfl

theorem gw_937 : Cond.instanceMethod ({ cls := "Collationer$Tailoring", name := "putAhead", desc := "(III)V" } : Jvm.MethodName) ∈ mGd := lk_4 (List.mem_of_getElem? (i := 217) rfl) rfl

theorem gs_124 : Cond.selects "Collationer$Tailoring" ⟨"Collationer$Tailoring", "putAhead", "(III)V"⟩ ⟨"Collationer$Tailoring", "putAhead", "(III)V"⟩ ∈ mGd := lp_3 (q := (⟨"Collationer$Tailoring", "putAhead", "(III)V"⟩, 11)) (List.mem_of_getElem? (i := 1) rfl)

theorem gw_938 : Cond.code ({ cls := "Collationer$Tailoring", name := "putAhead", desc := "(III)V" } : Jvm.MethodName) prog_11_method_20_code (5 : Nat) (Option.none : Option FieldType) ∈ mGd := lk_4 (List.mem_of_getElem? (i := 218) rfl) rfl

theorem gw_940 : Cond.methodLink "Collationer$Tailoring" (125 : Nat) ({ cls := "Collationer$Tailoring", name := "putBehind", desc := "(III)V" } : Jvm.MethodName) ∈ mGd := lk_4 (List.mem_of_getElem? (i := 220) rfl) rfl

theorem gw_942 : Cond.instanceMethod ({ cls := "Collationer$Tailoring", name := "putBehind", desc := "(III)V" } : Jvm.MethodName) ∈ mGd := lk_4 (List.mem_of_getElem? (i := 222) rfl) rfl

theorem gs_123 : Cond.selects "Collationer$Tailoring" ⟨"Collationer$Tailoring", "putBehind", "(III)V"⟩ ⟨"Collationer$Tailoring", "putBehind", "(III)V"⟩ ∈ mGd := lp_3 (q := (⟨"Collationer$Tailoring", "putBehind", "(III)V"⟩, 11)) (List.mem_of_getElem? (i := 2) rfl)

theorem gw_943 : Cond.code ({ cls := "Collationer$Tailoring", name := "putBehind", desc := "(III)V" } : Jvm.MethodName) prog_11_method_19_code (5 : Nat) (Option.none : Option FieldType) ∈ mGd := lk_4 (List.mem_of_getElem? (i := 223) rfl) rfl

theorem gw_925 : Cond.methodLink "Collationer$Tailoring" (128 : Nat) ({ cls := "java/lang/Math", name := "min", desc := "(II)I" } : Jvm.MethodName) ∈ mGd := lk_4 (List.mem_of_getElem? (i := 205) rfl) rfl

theorem gw_646 : Cond.static ({ cls := "java/lang/Math", name := "min", desc := "(II)I" } : Jvm.MethodName) ∈ mGd := lk_3 (List.mem_of_getElem? (i := 166) rfl) rfl

theorem gw_647 : Cond.code ({ cls := "java/lang/Math", name := "min", desc := "(II)I" } : Jvm.MethodName) prog_19_method_69_code (2 : Nat) (Option.some FieldType.int) ∈ mGd := lk_3 (List.mem_of_getElem? (i := 167) rfl) rfl

theorem gw_926 : Cond.methodLink "Collationer$Tailoring" (131 : Nat) ({ cls := "Collationer$Row", name := "set", desc := "(II)V" } : Jvm.MethodName) ∈ mGd := lk_4 (List.mem_of_getElem? (i := 206) rfl) rfl

theorem gw_927 : Cond.methodLink "Collationer$Tailoring" (134 : Nat) ({ cls := "Collationer$Row", name := "removeAt", desc := "(I)V" } : Jvm.MethodName) ∈ mGd := lk_4 (List.mem_of_getElem? (i := 207) rfl) rfl

theorem gw_939 : Cond.methodLink "Collationer$Tailoring" (137 : Nat) ({ cls := "Collationer$Row", name := "insert", desc := "(II)V" } : Jvm.MethodName) ∈ mGd := lk_4 (List.mem_of_getElem? (i := 219) rfl) rfl

theorem gw_25 : Cond.methodLink "Collationer" (3 : Nat) ({ cls := "java/lang/Object", name := "<init>", desc := "()V" } : Jvm.MethodName) ∈ mGd := lk_1 (List.mem_of_getElem? (i := 25) rfl) rfl

theorem gw_28 : Cond.classLink "Collationer" (9 : Nat) "Collationer$Compositions" ∈ mGd := lk_1 (List.mem_of_getElem? (i := 28) rfl) rfl

theorem gw_29 : Cond.instantiable "Collationer$Compositions" (3 : Nat) ∈ mGd := lk_1 (List.mem_of_getElem? (i := 29) rfl) rfl

theorem gw_30 : Cond.methodLink "Collationer" (11 : Nat) ({ cls := "Collationer$Compositions", name := "<init>", desc := "()V" } : Jvm.MethodName) ∈ mGd := lk_1 (List.mem_of_getElem? (i := 30) rfl) rfl

theorem gw_31 : Cond.instanceMethod ({ cls := "Collationer$Compositions", name := "<init>", desc := "()V" } : Jvm.MethodName) ∈ mGd := lk_1 (List.mem_of_getElem? (i := 31) rfl) rfl

theorem gw_32 : Cond.code ({ cls := "Collationer$Compositions", name := "<init>", desc := "()V" } : Jvm.MethodName) prog_3_method_1_code (2 : Nat) (Option.none : Option FieldType) ∈ mGd := lk_1 (List.mem_of_getElem? (i := 32) rfl) rfl

theorem gw_300 : Cond.fieldLink "Collationer" (12 : Nat) "Collationer" "compositions" "LCollationer$Compositions;" ∈ mGd := lk_2 (List.mem_of_getElem? (i := 60) rfl) rfl

theorem gw_45 : Cond.classLink "Collationer" (16 : Nat) "Collationer$Row" ∈ mGd := lk_1 (List.mem_of_getElem? (i := 45) rfl) rfl

theorem gw_47 : Cond.methodLink "Collationer" (18 : Nat) ({ cls := "Collationer$Row", name := "<init>", desc := "(I)V" } : Jvm.MethodName) ∈ mGd := lk_1 (List.mem_of_getElem? (i := 47) rfl) rfl

theorem gw_301 : Cond.fieldLink "Collationer" (21 : Nat) "Collationer" "draft" "LCollationer$Row;" ∈ mGd := lk_2 (List.mem_of_getElem? (i := 61) rfl) rfl

theorem gw_302 : Cond.fieldLink "Collationer" (25 : Nat) "Collationer" "ruleAnchor" "LCollationer$Row;" ∈ mGd := lk_2 (List.mem_of_getElem? (i := 62) rfl) rfl

theorem gw_303 : Cond.fieldLink "Collationer" (28 : Nat) "Collationer" "apartTexts" "[LCollationer$Row;" ∈ mGd := lk_2 (List.mem_of_getElem? (i := 63) rfl) rfl

theorem gw_62 : Cond.classLink "Collationer" (32 : Nat) "Collationer$Tailoring" ∈ mGd := lk_1 (List.mem_of_getElem? (i := 62) rfl) rfl

theorem gw_305 : Cond.fieldLink "Collationer" (34 : Nat) "Collationer" "tailorings" "[LCollationer$Tailoring;" ∈ mGd := lk_2 (List.mem_of_getElem? (i := 65) rfl) rfl

theorem gw_64 : Cond.instantiable "Collationer$Tailoring" (11 : Nat) ∈ mGd := lk_1 (List.mem_of_getElem? (i := 64) rfl) rfl

theorem gw_65 : Cond.methodLink "Collationer" (38 : Nat) ({ cls := "Collationer$Tailoring", name := "<init>", desc := "()V" } : Jvm.MethodName) ∈ mGd := lk_1 (List.mem_of_getElem? (i := 65) rfl) rfl

theorem gw_66 : Cond.instanceMethod ({ cls := "Collationer$Tailoring", name := "<init>", desc := "()V" } : Jvm.MethodName) ∈ mGd := lk_1 (List.mem_of_getElem? (i := 66) rfl) rfl

theorem gw_67 : Cond.code ({ cls := "Collationer$Tailoring", name := "<init>", desc := "()V" } : Jvm.MethodName) prog_11_method_1_code (2 : Nat) (Option.none : Option FieldType) ∈ mGd := lk_1 (List.mem_of_getElem? (i := 67) rfl) rfl

theorem gw_306 : Cond.fieldLink "Collationer" (39 : Nat) "Collationer" "trial" "LCollationer$Tailoring;" ∈ mGd := lk_2 (List.mem_of_getElem? (i := 66) rfl) rfl

theorem gw_307 : Cond.fieldLink "Collationer" (43 : Nat) "Collationer" "isHeading" "[Z" ∈ mGd := lk_2 (List.mem_of_getElem? (i := 67) rfl) rfl

theorem gw_133 : Cond.classLink "Collationer" (47 : Nat) "Collationer$Entry" ∈ mGd := lk_1 (List.mem_of_getElem? (i := 133) rfl) rfl

theorem gw_308 : Cond.fieldLink "Collationer" (49 : Nat) "Collationer" "allEntries" "[LCollationer$Entry;" ∈ mGd := lk_2 (List.mem_of_getElem? (i := 68) rfl) rfl

theorem gw_135 : Cond.classLink "Collationer" (53 : Nat) "Collationer$Index" ∈ mGd := lk_1 (List.mem_of_getElem? (i := 135) rfl) rfl

theorem gw_310 : Cond.fieldLink "Collationer" (55 : Nat) "Collationer" "orders" "[LCollationer$Index;" ∈ mGd := lk_2 (List.mem_of_getElem? (i := 70) rfl) rfl

theorem gw_137 : Cond.classLink "Collationer" (59 : Nat) "Collationer$Corpus" ∈ mGd := lk_1 (List.mem_of_getElem? (i := 137) rfl) rfl

theorem gw_138 : Cond.instantiable "Collationer$Corpus" (3 : Nat) ∈ mGd := lk_1 (List.mem_of_getElem? (i := 138) rfl) rfl

theorem gw_139 : Cond.methodLink "Collationer" (61 : Nat) ({ cls := "Collationer$Corpus", name := "<init>", desc := "()V" } : Jvm.MethodName) ∈ mGd := lk_1 (List.mem_of_getElem? (i := 139) rfl) rfl

theorem gw_140 : Cond.instanceMethod ({ cls := "Collationer$Corpus", name := "<init>", desc := "()V" } : Jvm.MethodName) ∈ mGd := lk_1 (List.mem_of_getElem? (i := 140) rfl) rfl

theorem gw_141 : Cond.code ({ cls := "Collationer$Corpus", name := "<init>", desc := "()V" } : Jvm.MethodName) prog_4_method_1_code (2 : Nat) (Option.none : Option FieldType) ∈ mGd := lk_1 (List.mem_of_getElem? (i := 141) rfl) rfl

theorem gw_311 : Cond.fieldLink "Collationer" (62 : Nat) "Collationer" "corpus" "LCollationer$Corpus;" ∈ mGd := lk_2 (List.mem_of_getElem? (i := 71) rfl) rfl

theorem gw_155 : Cond.classLink "Collationer" (66 : Nat) "Collationer$Pins" ∈ mGd := lk_1 (List.mem_of_getElem? (i := 155) rfl) rfl

theorem gw_7 : Cond.initialized "Collationer$Pins" ∈ mGd := lk_1 (List.mem_of_getElem? (i := 7) rfl) rfl

theorem gw_156 : Cond.instantiable "Collationer$Pins" (2 : Nat) ∈ mGd := lk_1 (List.mem_of_getElem? (i := 156) rfl) rfl

theorem gw_158 : Cond.instanceMethod ({ cls := "Collationer$Pins", name := "<init>", desc := "()V" } : Jvm.MethodName) ∈ mGd := lk_1 (List.mem_of_getElem? (i := 158) rfl) rfl

theorem gw_159 : Cond.code ({ cls := "Collationer$Pins", name := "<init>", desc := "()V" } : Jvm.MethodName) prog_9_method_1_code (1 : Nat) (Option.none : Option FieldType) ∈ mGd := lk_1 (List.mem_of_getElem? (i := 159) rfl) rfl

theorem gw_312 : Cond.fieldLink "Collationer" (69 : Nat) "Collationer" "pins" "LCollationer$Pins;" ∈ mGd := lk_2 (List.mem_of_getElem? (i := 72) rfl) rfl

theorem gw_313 : Cond.fieldLink "Collationer" (73 : Nat) "Collationer" "columnWidth" "I" ∈ mGd := lk_2 (List.mem_of_getElem? (i := 73) rfl) rfl

theorem gw_314 : Cond.fieldLink "Collationer" (77 : Nat) "Collationer" "columnHeight" "I" ∈ mGd := lk_2 (List.mem_of_getElem? (i := 74) rfl) rfl

theorem gw_170 : Cond.classLink "Collationer" (80 : Nat) "Collationer$Collator" ∈ mGd := lk_1 (List.mem_of_getElem? (i := 170) rfl) rfl

theorem gw_171 : Cond.instantiable "Collationer$Collator" (7 : Nat) ∈ mGd := lk_1 (List.mem_of_getElem? (i := 171) rfl) rfl

theorem gw_173 : Cond.instanceMethod ({ cls := "Collationer$Collator", name := "<init>", desc := "()V" } : Jvm.MethodName) ∈ mGd := lk_1 (List.mem_of_getElem? (i := 173) rfl) rfl

theorem gw_174 : Cond.code ({ cls := "Collationer$Collator", name := "<init>", desc := "()V" } : Jvm.MethodName) prog_2_method_1_code (1 : Nat) (Option.none : Option FieldType) ∈ mGd := lk_1 (List.mem_of_getElem? (i := 174) rfl) rfl

theorem gw_315 : Cond.fieldLink "Collationer" (83 : Nat) "Collationer" "collator" "LCollationer$Collator;" ∈ mGd := lk_2 (List.mem_of_getElem? (i := 75) rfl) rfl

theorem gw_316 : Cond.fieldLink "Collationer" (87 : Nat) "Collationer" "keys" "[LCollationer$Row;" ∈ mGd := lk_2 (List.mem_of_getElem? (i := 76) rfl) rfl

theorem gw_317 : Cond.fieldLink "Collationer" (90 : Nat) "Collationer" "signRow" "LCollationer$Row;" ∈ mGd := lk_2 (List.mem_of_getElem? (i := 77) rfl) rfl

theorem gw_318 : Cond.fieldLink "Collationer" (93 : Nat) "Collationer" "orderRow" "LCollationer$Row;" ∈ mGd := lk_2 (List.mem_of_getElem? (i := 78) rfl) rfl

theorem gw_227 : Cond.classLink "Collationer" (96 : Nat) "Collationer$Groups" ∈ mGd := lk_1 (List.mem_of_getElem? (i := 227) rfl) rfl

theorem gw_228 : Cond.instantiable "Collationer$Groups" (3 : Nat) ∈ mGd := lk_1 (List.mem_of_getElem? (i := 228) rfl) rfl

theorem gw_230 : Cond.instanceMethod ({ cls := "Collationer$Groups", name := "<init>", desc := "()V" } : Jvm.MethodName) ∈ mGd := lk_1 (List.mem_of_getElem? (i := 230) rfl) rfl

theorem gw_231 : Cond.code ({ cls := "Collationer$Groups", name := "<init>", desc := "()V" } : Jvm.MethodName) prog_7_method_1_code (1 : Nat) (Option.none : Option FieldType) ∈ mGd := lk_1 (List.mem_of_getElem? (i := 231) rfl) rfl

theorem gw_319 : Cond.fieldLink "Collationer" (99 : Nat) "Collationer" "groups" "LCollationer$Groups;" ∈ mGd := lk_2 (List.mem_of_getElem? (i := 79) rfl) rfl

theorem gw_11 : Cond.initialized "Collationer$Index" ∈ mGd := lk_1 (List.mem_of_getElem? (i := 11) rfl) rfl

theorem gw_245 : Cond.instantiable "Collationer$Index" (4 : Nat) ∈ mGd := lk_2 (List.mem_of_getElem? (i := 5) rfl) rfl

theorem gw_247 : Cond.instanceMethod ({ cls := "Collationer$Index", name := "<init>", desc := "()V" } : Jvm.MethodName) ∈ mGd := lk_2 (List.mem_of_getElem? (i := 7) rfl) rfl

theorem gw_248 : Cond.code ({ cls := "Collationer$Index", name := "<init>", desc := "()V" } : Jvm.MethodName) prog_8_method_1_code (1 : Nat) (Option.none : Option FieldType) ∈ mGd := lk_2 (List.mem_of_getElem? (i := 8) rfl) rfl

theorem gw_265 : Cond.instantiable "Collationer$Entry" (9 : Nat) ∈ mGd := lk_2 (List.mem_of_getElem? (i := 25) rfl) rfl

theorem gw_267 : Cond.instanceMethod ({ cls := "Collationer$Entry", name := "<init>", desc := "()V" } : Jvm.MethodName) ∈ mGd := lk_2 (List.mem_of_getElem? (i := 27) rfl) rfl

theorem gw_268 : Cond.code ({ cls := "Collationer$Entry", name := "<init>", desc := "()V" } : Jvm.MethodName) prog_6_method_1_code (1 : Nat) (Option.none : Option FieldType) ∈ mGd := lk_2 (List.mem_of_getElem? (i := 28) rfl) rfl

theorem gw_821 : Cond.methodLink "Collationer" (105 : Nat) ({ cls := "Collationer", name := "isThere", desc := "(I)Z" } : Jvm.MethodName) ∈ mGd := lk_4 (List.mem_of_getElem? (i := 101) rfl) rfl

theorem gw_823 : Cond.instanceMethod ({ cls := "Collationer", name := "isThere", desc := "(I)Z" } : Jvm.MethodName) ∈ mGd := lk_4 (List.mem_of_getElem? (i := 103) rfl) rfl

theorem gs_165 : Cond.selects "Collationer" ⟨"Collationer", "isThere", "(I)Z"⟩ ⟨"Collationer", "isThere", "(I)Z"⟩ ∈ mGd := lp_2 (q := (⟨"Collationer", "isThere", "(I)Z"⟩, 20)) (List.mem_of_getElem? (i := 9) rfl)

theorem gw_824 : Cond.code ({ cls := "Collationer", name := "isThere", desc := "(I)Z" } : Jvm.MethodName) prog_1_method_39_code (2 : Nat) (Option.some FieldType.boolean) ∈ mGd := lk_4 (List.mem_of_getElem? (i := 104) rfl) rfl

theorem gw_374 : Cond.classLink "Collationer" (109 : Nat) "java/lang/IndexOutOfBoundsException" ∈ mGd := lk_2 (List.mem_of_getElem? (i := 134) rfl) rfl

theorem gw_16 : Cond.initialized "java/lang/IndexOutOfBoundsException" ∈ mGd := lk_1 (List.mem_of_getElem? (i := 16) rfl) rfl

theorem gw_365 : Cond.methodLink "Collationer" (116 : Nat) ({ cls := "Collationer$Row", name := "size", desc := "()I" } : Jvm.MethodName) ∈ mGd := lk_2 (List.mem_of_getElem? (i := 125) rfl) rfl

theorem gw_697 : Cond.classLink "Collationer" (120 : Nat) "java/lang/IllegalStateException" ∈ mGd := lk_3 (List.mem_of_getElem? (i := 217) rfl) rfl

theorem gw_17 : Cond.initialized "java/lang/IllegalStateException" ∈ mGd := lk_1 (List.mem_of_getElem? (i := 17) rfl) rfl

theorem gw_494 : Cond.methodLink "Collationer" (125 : Nat) ({ cls := "Collationer$Row", name := "put", desc := "(I)V" } : Jvm.MethodName) ∈ mGd := lk_3 (List.mem_of_getElem? (i := 14) rfl) rfl

theorem gw_839 : Cond.methodLink "Collationer" (128 : Nat) ({ cls := "Collationer$Compositions", name := "canBeBase", desc := "(I)Z" } : Jvm.MethodName) ∈ mGd := lk_4 (List.mem_of_getElem? (i := 119) rfl) rfl

theorem gw_840 : Cond.instanceMethod ({ cls := "Collationer$Compositions", name := "canBeBase", desc := "(I)Z" } : Jvm.MethodName) ∈ mGd := lk_4 (List.mem_of_getElem? (i := 120) rfl) rfl

theorem gw_841 : Cond.selects "Collationer$Compositions" ({ cls := "Collationer$Compositions", name := "canBeBase", desc := "(I)Z" } : Jvm.MethodName) ({ cls := "Collationer$Compositions", name := "canBeBase", desc := "(I)Z" } : Jvm.MethodName) ∈ mGd := lk_4 (List.mem_of_getElem? (i := 121) rfl) rfl

theorem gw_842 : Cond.code ({ cls := "Collationer$Compositions", name := "canBeBase", desc := "(I)Z" } : Jvm.MethodName) prog_3_method_6_code (2 : Nat) (Option.some FieldType.boolean) ∈ mGd := lk_4 (List.mem_of_getElem? (i := 122) rfl) rfl

theorem gw_581 : Cond.methodLink "Collationer" (131 : Nat) ({ cls := "Collationer", name := "isMark", desc := "(I)Z" } : Jvm.MethodName) ∈ mGd := lk_3 (List.mem_of_getElem? (i := 101) rfl) rfl

theorem gw_825 : Cond.methodLink "Collationer" (136 : Nat) ({ cls := "Collationer$Compositions", name := "has", desc := "(I)Z" } : Jvm.MethodName) ∈ mGd := lk_4 (List.mem_of_getElem? (i := 105) rfl) rfl

theorem gw_847 : Cond.methodLink "Collationer" (139 : Nat) ({ cls := "Collationer$Compositions", name := "composedOf", desc := "(II)I" } : Jvm.MethodName) ∈ mGd := lk_4 (List.mem_of_getElem? (i := 127) rfl) rfl

theorem gw_852 : Cond.methodLink "Collationer" (145 : Nat) ({ cls := "Collationer$Compositions", name := "tell", desc := "(III)V" } : Jvm.MethodName) ∈ mGd := lk_4 (List.mem_of_getElem? (i := 132) rfl) rfl

theorem gw_853 : Cond.instanceMethod ({ cls := "Collationer$Compositions", name := "tell", desc := "(III)V" } : Jvm.MethodName) ∈ mGd := lk_4 (List.mem_of_getElem? (i := 133) rfl) rfl

theorem gw_854 : Cond.selects "Collationer$Compositions" ({ cls := "Collationer$Compositions", name := "tell", desc := "(III)V" } : Jvm.MethodName) ({ cls := "Collationer$Compositions", name := "tell", desc := "(III)V" } : Jvm.MethodName) ∈ mGd := lk_4 (List.mem_of_getElem? (i := 134) rfl) rfl

theorem gw_855 : Cond.code ({ cls := "Collationer$Compositions", name := "tell", desc := "(III)V" } : Jvm.MethodName) prog_3_method_7_code (4 : Nat) (Option.none : Option FieldType) ∈ mGd := lk_4 (List.mem_of_getElem? (i := 135) rfl) rfl

theorem gw_856 : Cond.methodLink "Collationer" (149 : Nat) ({ cls := "Collationer$Compositions", name := "count", desc := "()I" } : Jvm.MethodName) ∈ mGd := lk_4 (List.mem_of_getElem? (i := 136) rfl) rfl

theorem gw_857 : Cond.instanceMethod ({ cls := "Collationer$Compositions", name := "count", desc := "()I" } : Jvm.MethodName) ∈ mGd := lk_4 (List.mem_of_getElem? (i := 137) rfl) rfl

theorem gw_858 : Cond.selects "Collationer$Compositions" ({ cls := "Collationer$Compositions", name := "count", desc := "()I" } : Jvm.MethodName) ({ cls := "Collationer$Compositions", name := "count", desc := "()I" } : Jvm.MethodName) ∈ mGd := lk_4 (List.mem_of_getElem? (i := 138) rfl) rfl

theorem gw_859 : Cond.code ({ cls := "Collationer$Compositions", name := "count", desc := "()I" } : Jvm.MethodName) prog_3_method_2_code (1 : Nat) (Option.some FieldType.int) ∈ mGd := lk_4 (List.mem_of_getElem? (i := 139) rfl) rfl

theorem gw_779 : Cond.methodLink "Collationer" (152 : Nat) ({ cls := "Collationer$Row", name := "isEmpty", desc := "()Z" } : Jvm.MethodName) ∈ mGd := lk_4 (List.mem_of_getElem? (i := 59) rfl) rfl

theorem gw_304 : Cond.fieldLink "Collationer" (156 : Nat) "Collationer" "textCount" "I" ∈ mGd := lk_2 (List.mem_of_getElem? (i := 64) rfl) rfl

theorem gw_475 : Cond.methodLink "Collationer" (161 : Nat) ({ cls := "Collationer", name := "textNumbered", desc := "(I)LCollationer$Row;" } : Jvm.MethodName) ∈ mGd := lk_2 (List.mem_of_getElem? (i := 235) rfl) rfl

theorem gw_477 : Cond.instanceMethod ({ cls := "Collationer", name := "textNumbered", desc := "(I)LCollationer$Row;" } : Jvm.MethodName) ∈ mGd := lk_2 (List.mem_of_getElem? (i := 237) rfl) rfl

theorem gs_169 : Cond.selects "Collationer" ⟨"Collationer", "textNumbered", "(I)LCollationer$Row;"⟩ ⟨"Collationer", "textNumbered", "(I)LCollationer$Row;"⟩ ∈ mGd := lp_1 (q := (⟨"Collationer", "textNumbered", "(I)LCollationer$Row;"⟩, 20)) (List.mem_of_getElem? (i := 7) rfl)

theorem gw_478 : Cond.code ({ cls := "Collationer", name := "textNumbered", desc := "(I)LCollationer$Row;" } : Jvm.MethodName) prog_1_method_43_code (2 : Nat) (Option.some (FieldType.object "Collationer$Row")) ∈ mGd := lk_2 (List.mem_of_getElem? (i := 238) rfl) rfl

theorem gw_865 : Cond.methodLink "Collationer" (165 : Nat) ({ cls := "Collationer$Compositions", name := "takeApart", desc := "(LCollationer$Row;LCollationer$Row;)V" } : Jvm.MethodName) ∈ mGd := lk_4 (List.mem_of_getElem? (i := 145) rfl) rfl

theorem gw_866 : Cond.instanceMethod ({ cls := "Collationer$Compositions", name := "takeApart", desc := "(LCollationer$Row;LCollationer$Row;)V" } : Jvm.MethodName) ∈ mGd := lk_4 (List.mem_of_getElem? (i := 146) rfl) rfl

theorem gw_867 : Cond.selects "Collationer$Compositions" ({ cls := "Collationer$Compositions", name := "takeApart", desc := "(LCollationer$Row;LCollationer$Row;)V" } : Jvm.MethodName) ({ cls := "Collationer$Compositions", name := "takeApart", desc := "(LCollationer$Row;LCollationer$Row;)V" } : Jvm.MethodName) ∈ mGd := lk_4 (List.mem_of_getElem? (i := 147) rfl) rfl

theorem gw_868 : Cond.code ({ cls := "Collationer$Compositions", name := "takeApart", desc := "(LCollationer$Row;LCollationer$Row;)V" } : Jvm.MethodName) prog_3_method_9_code (4 : Nat) (Option.none : Option FieldType) ∈ mGd := lk_4 (List.mem_of_getElem? (i := 148) rfl) rfl

theorem gw_366 : Cond.methodLink "Collationer" (169 : Nat) ({ cls := "Collationer$Row", name := "clear", desc := "()V" } : Jvm.MethodName) ∈ mGd := lk_2 (List.mem_of_getElem? (i := 126) rfl) rfl

theorem gw_371 : Cond.methodLink "Collationer" (174 : Nat) ({ cls := "Collationer", name := "isTailoring", desc := "(I)Z" } : Jvm.MethodName) ∈ mGd := lk_2 (List.mem_of_getElem? (i := 131) rfl) rfl

theorem gw_372 : Cond.static ({ cls := "Collationer", name := "isTailoring", desc := "(I)Z" } : Jvm.MethodName) ∈ mGd := lk_2 (List.mem_of_getElem? (i := 132) rfl) rfl

theorem gw_373 : Cond.code ({ cls := "Collationer", name := "isTailoring", desc := "(I)Z" } : Jvm.MethodName) prog_1_method_48_code (1 : Nat) (Option.some FieldType.boolean) ∈ mGd := lk_2 (List.mem_of_getElem? (i := 133) rfl) rfl

theorem gw_725 : Cond.classLink "Collationer" (179 : Nat) "java/lang/IllegalArgumentException" ∈ mGd := lk_4 (List.mem_of_getElem? (i := 5) rfl) rfl

theorem gw_18 : Cond.initialized "java/lang/IllegalArgumentException" ∈ mGd := lk_1 (List.mem_of_getElem? (i := 18) rfl) rfl

theorem gw_893 : Cond.methodLink "Collationer" (184 : Nat) ({ cls := "Collationer", name := "codeOf", desc := "(LCollationer$Row;II)I" } : Jvm.MethodName) ∈ mGd := lk_4 (List.mem_of_getElem? (i := 173) rfl) rfl

theorem gw_894 : Cond.methodLink "Collationer" (188 : Nat) ({ cls := "Collationer$Tailoring", name := "canTell", desc := "(III)Z" } : Jvm.MethodName) ∈ mGd := lk_4 (List.mem_of_getElem? (i := 174) rfl) rfl

theorem gw_895 : Cond.instanceMethod ({ cls := "Collationer$Tailoring", name := "canTell", desc := "(III)Z" } : Jvm.MethodName) ∈ mGd := lk_4 (List.mem_of_getElem? (i := 175) rfl) rfl

theorem gw_896 : Cond.selects "Collationer$Tailoring" ({ cls := "Collationer$Tailoring", name := "canTell", desc := "(III)Z" } : Jvm.MethodName) ({ cls := "Collationer$Tailoring", name := "canTell", desc := "(III)Z" } : Jvm.MethodName) ∈ mGd := lk_4 (List.mem_of_getElem? (i := 176) rfl) rfl

theorem gw_897 : Cond.code ({ cls := "Collationer$Tailoring", name := "canTell", desc := "(III)Z" } : Jvm.MethodName) prog_11_method_12_code (4 : Nat) (Option.some FieldType.boolean) ∈ mGd := lk_4 (List.mem_of_getElem? (i := 177) rfl) rfl

theorem gw_442 : Cond.methodLink "Collationer" (194 : Nat) ({ cls := "Collationer", name := "orderOf", desc := "(I)LCollationer$Row;" } : Jvm.MethodName) ∈ mGd := lk_2 (List.mem_of_getElem? (i := 202) rfl) rfl

theorem gw_444 : Cond.instanceMethod ({ cls := "Collationer", name := "orderOf", desc := "(I)LCollationer$Row;" } : Jvm.MethodName) ∈ mGd := lk_2 (List.mem_of_getElem? (i := 204) rfl) rfl

theorem gs_188 : Cond.selects "Collationer" ⟨"Collationer", "orderOf", "(I)LCollationer$Row;"⟩ ⟨"Collationer", "orderOf", "(I)LCollationer$Row;"⟩ ∈ mGd := lp_1 (q := (⟨"Collationer", "orderOf", "(I)LCollationer$Row;"⟩, 20)) (List.mem_of_getElem? (i := 3) rfl)

theorem gw_445 : Cond.code ({ cls := "Collationer", name := "orderOf", desc := "(I)LCollationer$Row;" } : Jvm.MethodName) prog_1_method_62_code (4 : Nat) (Option.some (FieldType.object "Collationer$Row")) ∈ mGd := lk_2 (List.mem_of_getElem? (i := 205) rfl) rfl

theorem gw_663 : Cond.methodLink "Collationer" (197 : Nat) ({ cls := "Collationer$Index", name := "remember", desc := "(LCollationer$Row;)V" } : Jvm.MethodName) ∈ mGd := lk_3 (List.mem_of_getElem? (i := 183) rfl) rfl

theorem gw_664 : Cond.instanceMethod ({ cls := "Collationer$Index", name := "remember", desc := "(LCollationer$Row;)V" } : Jvm.MethodName) ∈ mGd := lk_3 (List.mem_of_getElem? (i := 184) rfl) rfl

theorem gw_665 : Cond.selects "Collationer$Index" ({ cls := "Collationer$Index", name := "remember", desc := "(LCollationer$Row;)V" } : Jvm.MethodName) ({ cls := "Collationer$Index", name := "remember", desc := "(LCollationer$Row;)V" } : Jvm.MethodName) ∈ mGd := lk_3 (List.mem_of_getElem? (i := 185) rfl) rfl

theorem gw_666 : Cond.code ({ cls := "Collationer$Index", name := "remember", desc := "(LCollationer$Row;)V" } : Jvm.MethodName) prog_8_method_9_code (2 : Nat) (Option.none : Option FieldType) ∈ mGd := lk_3 (List.mem_of_getElem? (i := 186) rfl) rfl

theorem gw_917 : Cond.methodLink "Collationer" (201 : Nat) ({ cls := "Collationer$Tailoring", name := "tell", desc := "(III)V" } : Jvm.MethodName) ∈ mGd := lk_4 (List.mem_of_getElem? (i := 197) rfl) rfl

theorem gw_918 : Cond.instanceMethod ({ cls := "Collationer$Tailoring", name := "tell", desc := "(III)V" } : Jvm.MethodName) ∈ mGd := lk_4 (List.mem_of_getElem? (i := 198) rfl) rfl

theorem gw_919 : Cond.selects "Collationer$Tailoring" ({ cls := "Collationer$Tailoring", name := "tell", desc := "(III)V" } : Jvm.MethodName) ({ cls := "Collationer$Tailoring", name := "tell", desc := "(III)V" } : Jvm.MethodName) ∈ mGd := lk_4 (List.mem_of_getElem? (i := 199) rfl) rfl

theorem gw_920 : Cond.code ({ cls := "Collationer$Tailoring", name := "tell", desc := "(III)V" } : Jvm.MethodName) prog_11_method_16_code (4 : Nat) (Option.none : Option FieldType) ∈ mGd := lk_4 (List.mem_of_getElem? (i := 200) rfl) rfl

theorem gw_750 : Cond.methodLink "Collationer" (202 : Nat) ({ cls := "Collationer$Tailoring", name := "ruleCount", desc := "()I" } : Jvm.MethodName) ∈ mGd := lk_4 (List.mem_of_getElem? (i := 30) rfl) rfl

theorem gw_751 : Cond.instanceMethod ({ cls := "Collationer$Tailoring", name := "ruleCount", desc := "()I" } : Jvm.MethodName) ∈ mGd := lk_4 (List.mem_of_getElem? (i := 31) rfl) rfl

theorem gw_752 : Cond.selects "Collationer$Tailoring" ({ cls := "Collationer$Tailoring", name := "ruleCount", desc := "()I" } : Jvm.MethodName) ({ cls := "Collationer$Tailoring", name := "ruleCount", desc := "()I" } : Jvm.MethodName) ∈ mGd := lk_4 (List.mem_of_getElem? (i := 32) rfl) rfl

theorem gw_753 : Cond.code ({ cls := "Collationer$Tailoring", name := "ruleCount", desc := "()I" } : Jvm.MethodName) prog_11_method_7_code (1 : Nat) (Option.some FieldType.int) ∈ mGd := lk_4 (List.mem_of_getElem? (i := 33) rfl) rfl

theorem gw_673 : Cond.methodLink "Collationer" (219 : Nat) ({ cls := "Collationer$Tailoring", name := "hasOption", desc := "(I)Z" } : Jvm.MethodName) ∈ mGd := lk_3 (List.mem_of_getElem? (i := 193) rfl) rfl

theorem gw_674 : Cond.methodLink "Collationer" (222 : Nat) ({ cls := "Collationer$Tailoring", name := "setOption", desc := "(IZ)V" } : Jvm.MethodName) ∈ mGd := lk_3 (List.mem_of_getElem? (i := 194) rfl) rfl

theorem gw_675 : Cond.instanceMethod ({ cls := "Collationer$Tailoring", name := "setOption", desc := "(IZ)V" } : Jvm.MethodName) ∈ mGd := lk_3 (List.mem_of_getElem? (i := 195) rfl) rfl

theorem gw_676 : Cond.selects "Collationer$Tailoring" ({ cls := "Collationer$Tailoring", name := "setOption", desc := "(IZ)V" } : Jvm.MethodName) ({ cls := "Collationer$Tailoring", name := "setOption", desc := "(IZ)V" } : Jvm.MethodName) ∈ mGd := lk_3 (List.mem_of_getElem? (i := 196) rfl) rfl

theorem gw_677 : Cond.code ({ cls := "Collationer$Tailoring", name := "setOption", desc := "(IZ)V" } : Jvm.MethodName) prog_11_method_5_code (3 : Nat) (Option.none : Option FieldType) ∈ mGd := lk_3 (List.mem_of_getElem? (i := 197) rfl) rfl

theorem gw_762 : Cond.methodLink "Collationer" (228 : Nat) ({ cls := "Collationer", name := "hasEntry", desc := "(I)Z" } : Jvm.MethodName) ∈ mGd := lk_4 (List.mem_of_getElem? (i := 42) rfl) rfl

theorem gw_764 : Cond.instanceMethod ({ cls := "Collationer", name := "hasEntry", desc := "(I)Z" } : Jvm.MethodName) ∈ mGd := lk_4 (List.mem_of_getElem? (i := 44) rfl) rfl

theorem gs_167 : Cond.selects "Collationer" ⟨"Collationer", "hasEntry", "(I)Z"⟩ ⟨"Collationer", "hasEntry", "(I)Z"⟩ ∈ mGd := lp_2 (q := (⟨"Collationer", "hasEntry", "(I)Z"⟩, 20)) (List.mem_of_getElem? (i := 5) rfl)

theorem gw_765 : Cond.code ({ cls := "Collationer", name := "hasEntry", desc := "(I)Z" } : Jvm.MethodName) prog_1_method_41_code (2 : Nat) (Option.some FieldType.boolean) ∈ mGd := lk_4 (List.mem_of_getElem? (i := 45) rfl) rfl

theorem gw_687 : Cond.methodLink "Collationer" (231 : Nat) ({ cls := "Collationer", name := "hasText", desc := "(I)Z" } : Jvm.MethodName) ∈ mGd := lk_3 (List.mem_of_getElem? (i := 207) rfl) rfl

theorem gw_689 : Cond.instanceMethod ({ cls := "Collationer", name := "hasText", desc := "(I)Z" } : Jvm.MethodName) ∈ mGd := lk_3 (List.mem_of_getElem? (i := 209) rfl) rfl

theorem gs_166 : Cond.selects "Collationer" ⟨"Collationer", "hasText", "(I)Z"⟩ ⟨"Collationer", "hasText", "(I)Z"⟩ ∈ mGd := lp_2 (q := (⟨"Collationer", "hasText", "(I)Z"⟩, 20)) (List.mem_of_getElem? (i := 4) rfl)

theorem gw_690 : Cond.code ({ cls := "Collationer", name := "hasText", desc := "(I)Z" } : Jvm.MethodName) prog_1_method_40_code (2 : Nat) (Option.some FieldType.boolean) ∈ mGd := lk_3 (List.mem_of_getElem? (i := 210) rfl) rfl

theorem gw_463 : Cond.methodLink "Collationer" (238 : Nat) ({ cls := "Collationer", name := "entryNumbered", desc := "(I)LCollationer$Entry;" } : Jvm.MethodName) ∈ mGd := lk_2 (List.mem_of_getElem? (i := 223) rfl) rfl

theorem gw_465 : Cond.instanceMethod ({ cls := "Collationer", name := "entryNumbered", desc := "(I)LCollationer$Entry;" } : Jvm.MethodName) ∈ mGd := lk_2 (List.mem_of_getElem? (i := 225) rfl) rfl

theorem gs_171 : Cond.selects "Collationer" ⟨"Collationer", "entryNumbered", "(I)LCollationer$Entry;"⟩ ⟨"Collationer", "entryNumbered", "(I)LCollationer$Entry;"⟩ ∈ mGd := lp_1 (q := (⟨"Collationer", "entryNumbered", "(I)LCollationer$Entry;"⟩, 20)) (List.mem_of_getElem? (i := 5) rfl)

theorem gw_466 : Cond.code ({ cls := "Collationer", name := "entryNumbered", desc := "(I)LCollationer$Entry;" } : Jvm.MethodName) prog_1_method_45_code (2 : Nat) (Option.some (FieldType.object "Collationer$Entry")) ∈ mGd := lk_2 (List.mem_of_getElem? (i := 226) rfl) rfl

theorem gw_634 : Cond.methodLink "Collationer" (242 : Nat) ({ cls := "Collationer$Entry", name := "hasParent", desc := "()Z" } : Jvm.MethodName) ∈ mGd := lk_3 (List.mem_of_getElem? (i := 154) rfl) rfl

theorem gw_635 : Cond.instanceMethod ({ cls := "Collationer$Entry", name := "hasParent", desc := "()Z" } : Jvm.MethodName) ∈ mGd := lk_3 (List.mem_of_getElem? (i := 155) rfl) rfl

theorem gw_636 : Cond.selects "Collationer$Entry" ({ cls := "Collationer$Entry", name := "hasParent", desc := "()Z" } : Jvm.MethodName) ({ cls := "Collationer$Entry", name := "hasParent", desc := "()Z" } : Jvm.MethodName) ∈ mGd := lk_3 (List.mem_of_getElem? (i := 156) rfl) rfl

theorem gw_637 : Cond.code ({ cls := "Collationer$Entry", name := "hasParent", desc := "()Z" } : Jvm.MethodName) prog_6_method_5_code (1 : Nat) (Option.some FieldType.boolean) ∈ mGd := lk_3 (List.mem_of_getElem? (i := 157) rfl) rfl

theorem gw_309 : Cond.fieldLink "Collationer" (245 : Nat) "Collationer" "entryCount" "I" ∈ mGd := lk_2 (List.mem_of_getElem? (i := 69) rfl) rfl

theorem gw_951 : Cond.methodLink "Collationer" (250 : Nat) ({ cls := "Collationer$Entry", name := "indexSet", desc := "()I" } : Jvm.MethodName) ∈ mGd := lk_4 (List.mem_of_getElem? (i := 231) rfl) rfl

theorem gw_952 : Cond.instanceMethod ({ cls := "Collationer$Entry", name := "indexSet", desc := "()I" } : Jvm.MethodName) ∈ mGd := lk_4 (List.mem_of_getElem? (i := 232) rfl) rfl

theorem gw_953 : Cond.selects "Collationer$Entry" ({ cls := "Collationer$Entry", name := "indexSet", desc := "()I" } : Jvm.MethodName) ({ cls := "Collationer$Entry", name := "indexSet", desc := "()I" } : Jvm.MethodName) ∈ mGd := lk_4 (List.mem_of_getElem? (i := 233) rfl) rfl

theorem gw_954 : Cond.code ({ cls := "Collationer$Entry", name := "indexSet", desc := "()I" } : Jvm.MethodName) prog_6_method_6_code (1 : Nat) (Option.some FieldType.int) ∈ mGd := lk_4 (List.mem_of_getElem? (i := 234) rfl) rfl

theorem gw_955 : Cond.methodLink "Collationer" (253 : Nat) ({ cls := "Collationer$Entry", name := "begin", desc := "(III)V" } : Jvm.MethodName) ∈ mGd := lk_4 (List.mem_of_getElem? (i := 235) rfl) rfl

theorem gw_956 : Cond.instanceMethod ({ cls := "Collationer$Entry", name := "begin", desc := "(III)V" } : Jvm.MethodName) ∈ mGd := lk_4 (List.mem_of_getElem? (i := 236) rfl) rfl

theorem gw_957 : Cond.selects "Collationer$Entry" ({ cls := "Collationer$Entry", name := "begin", desc := "(III)V" } : Jvm.MethodName) ({ cls := "Collationer$Entry", name := "begin", desc := "(III)V" } : Jvm.MethodName) ∈ mGd := lk_4 (List.mem_of_getElem? (i := 237) rfl) rfl

theorem gw_958 : Cond.code ({ cls := "Collationer$Entry", name := "begin", desc := "(III)V" } : Jvm.MethodName) prog_6_method_2_code (4 : Nat) (Option.none : Option FieldType) ∈ mGd := lk_4 (List.mem_of_getElem? (i := 238) rfl) rfl

theorem gw_959 : Cond.methodLink "Collationer" (256 : Nat) ({ cls := "Collationer", name := "forgetOrders", desc := "()V" } : Jvm.MethodName) ∈ mGd := lk_4 (List.mem_of_getElem? (i := 239) rfl) rfl

theorem gw_961 : Cond.instanceMethod ({ cls := "Collationer", name := "forgetOrders", desc := "()V" } : Jvm.MethodName) ∈ mGd := lk_5 (List.mem_of_getElem? (i := 1) rfl) rfl

theorem gs_189 : Cond.selects "Collationer" ⟨"Collationer", "forgetOrders", "()V"⟩ ⟨"Collationer", "forgetOrders", "()V"⟩ ∈ mGd := lp_3 (q := (⟨"Collationer", "forgetOrders", "()V"⟩, 20)) (List.mem_of_getElem? (i := 3) rfl)

theorem gw_962 : Cond.code ({ cls := "Collationer", name := "forgetOrders", desc := "()V" } : Jvm.MethodName) prog_1_method_63_code (2 : Nat) (Option.none : Option FieldType) ∈ mGd := lk_5 (List.mem_of_getElem? (i := 2) rfl) rfl

theorem gw_471 : Cond.methodLink "Collationer" (261 : Nat) ({ cls := "Collationer$Entry", name := "textNumber", desc := "()I" } : Jvm.MethodName) ∈ mGd := lk_2 (List.mem_of_getElem? (i := 231) rfl) rfl

theorem gw_472 : Cond.instanceMethod ({ cls := "Collationer$Entry", name := "textNumber", desc := "()I" } : Jvm.MethodName) ∈ mGd := lk_2 (List.mem_of_getElem? (i := 232) rfl) rfl

theorem gw_473 : Cond.selects "Collationer$Entry" ({ cls := "Collationer$Entry", name := "textNumber", desc := "()I" } : Jvm.MethodName) ({ cls := "Collationer$Entry", name := "textNumber", desc := "()I" } : Jvm.MethodName) ∈ mGd := lk_2 (List.mem_of_getElem? (i := 233) rfl) rfl

theorem gw_474 : Cond.code ({ cls := "Collationer$Entry", name := "textNumber", desc := "()I" } : Jvm.MethodName) prog_6_method_3_code (1 : Nat) (Option.some FieldType.int) ∈ mGd := lk_2 (List.mem_of_getElem? (i := 234) rfl) rfl

theorem gw_972 : Cond.methodLink "Collationer" (266 : Nat) ({ cls := "Collationer$Entry", name := "formKind", desc := "()I" } : Jvm.MethodName) ∈ mGd := lk_5 (List.mem_of_getElem? (i := 12) rfl) rfl

theorem gw_973 : Cond.instanceMethod ({ cls := "Collationer$Entry", name := "formKind", desc := "()I" } : Jvm.MethodName) ∈ mGd := lk_5 (List.mem_of_getElem? (i := 13) rfl) rfl

theorem gw_974 : Cond.selects "Collationer$Entry" ({ cls := "Collationer$Entry", name := "formKind", desc := "()I" } : Jvm.MethodName) ({ cls := "Collationer$Entry", name := "formKind", desc := "()I" } : Jvm.MethodName) ∈ mGd := lk_5 (List.mem_of_getElem? (i := 14) rfl) rfl

theorem gw_975 : Cond.code ({ cls := "Collationer$Entry", name := "formKind", desc := "()I" } : Jvm.MethodName) prog_6_method_8_code (1 : Nat) (Option.some FieldType.int) ∈ mGd := lk_5 (List.mem_of_getElem? (i := 15) rfl) rfl

theorem gw_976 : Cond.methodLink "Collationer" (269 : Nat) ({ cls := "Collationer$Entry", name := "setForm", desc := "(II)V" } : Jvm.MethodName) ∈ mGd := lk_5 (List.mem_of_getElem? (i := 16) rfl) rfl

theorem gw_977 : Cond.instanceMethod ({ cls := "Collationer$Entry", name := "setForm", desc := "(II)V" } : Jvm.MethodName) ∈ mGd := lk_5 (List.mem_of_getElem? (i := 17) rfl) rfl

theorem gw_978 : Cond.selects "Collationer$Entry" ({ cls := "Collationer$Entry", name := "setForm", desc := "(II)V" } : Jvm.MethodName) ({ cls := "Collationer$Entry", name := "setForm", desc := "(II)V" } : Jvm.MethodName) ∈ mGd := lk_5 (List.mem_of_getElem? (i := 18) rfl) rfl

theorem gw_979 : Cond.code ({ cls := "Collationer$Entry", name := "setForm", desc := "(II)V" } : Jvm.MethodName) prog_6_method_11_code (3 : Nat) (Option.none : Option FieldType) ∈ mGd := lk_5 (List.mem_of_getElem? (i := 19) rfl) rfl

theorem gw_984 : Cond.methodLink "Collationer" (273 : Nat) ({ cls := "Collationer", name := "isPage", desc := "(I)Z" } : Jvm.MethodName) ∈ mGd := lk_5 (List.mem_of_getElem? (i := 24) rfl) rfl

theorem gw_985 : Cond.static ({ cls := "Collationer", name := "isPage", desc := "(I)Z" } : Jvm.MethodName) ∈ mGd := lk_5 (List.mem_of_getElem? (i := 25) rfl) rfl

theorem gw_986 : Cond.code ({ cls := "Collationer", name := "isPage", desc := "(I)Z" } : Jvm.MethodName) prog_1_method_50_code (1 : Nat) (Option.some FieldType.boolean) ∈ mGd := lk_5 (List.mem_of_getElem? (i := 26) rfl) rfl

theorem gw_988 : Cond.methodLink "Collationer" (278 : Nat) ({ cls := "Collationer$Entry", name := "hasLocator", desc := "(II)Z" } : Jvm.MethodName) ∈ mGd := lk_5 (List.mem_of_getElem? (i := 28) rfl) rfl

theorem gw_989 : Cond.instanceMethod ({ cls := "Collationer$Entry", name := "hasLocator", desc := "(II)Z" } : Jvm.MethodName) ∈ mGd := lk_5 (List.mem_of_getElem? (i := 29) rfl) rfl

theorem gw_990 : Cond.selects "Collationer$Entry" ({ cls := "Collationer$Entry", name := "hasLocator", desc := "(II)Z" } : Jvm.MethodName) ({ cls := "Collationer$Entry", name := "hasLocator", desc := "(II)Z" } : Jvm.MethodName) ∈ mGd := lk_5 (List.mem_of_getElem? (i := 30) rfl) rfl

theorem gw_991 : Cond.code ({ cls := "Collationer$Entry", name := "hasLocator", desc := "(II)Z" } : Jvm.MethodName) prog_6_method_17_code (3 : Nat) (Option.some FieldType.boolean) ∈ mGd := lk_5 (List.mem_of_getElem? (i := 31) rfl) rfl

theorem gw_775 : Cond.methodLink "Collationer" (282 : Nat) ({ cls := "Collationer$Entry", name := "locators", desc := "()LCollationer$Row;" } : Jvm.MethodName) ∈ mGd := lk_4 (List.mem_of_getElem? (i := 55) rfl) rfl

theorem gw_776 : Cond.instanceMethod ({ cls := "Collationer$Entry", name := "locators", desc := "()LCollationer$Row;" } : Jvm.MethodName) ∈ mGd := lk_4 (List.mem_of_getElem? (i := 56) rfl) rfl

theorem gw_777 : Cond.selects "Collationer$Entry" ({ cls := "Collationer$Entry", name := "locators", desc := "()LCollationer$Row;" } : Jvm.MethodName) ({ cls := "Collationer$Entry", name := "locators", desc := "()LCollationer$Row;" } : Jvm.MethodName) ∈ mGd := lk_4 (List.mem_of_getElem? (i := 57) rfl) rfl

theorem gw_778 : Cond.code ({ cls := "Collationer$Entry", name := "locators", desc := "()LCollationer$Row;" } : Jvm.MethodName) prog_6_method_12_code (1 : Nat) (Option.some (FieldType.object "Collationer$Row")) ∈ mGd := lk_4 (List.mem_of_getElem? (i := 58) rfl) rfl

theorem gw_1000 : Cond.methodLink "Collationer" (288 : Nat) ({ cls := "Collationer$Entry", name := "addLocator", desc := "(II)V" } : Jvm.MethodName) ∈ mGd := lk_5 (List.mem_of_getElem? (i := 40) rfl) rfl

theorem gw_1001 : Cond.instanceMethod ({ cls := "Collationer$Entry", name := "addLocator", desc := "(II)V" } : Jvm.MethodName) ∈ mGd := lk_5 (List.mem_of_getElem? (i := 41) rfl) rfl

theorem gw_1002 : Cond.selects "Collationer$Entry" ({ cls := "Collationer$Entry", name := "addLocator", desc := "(II)V" } : Jvm.MethodName) ({ cls := "Collationer$Entry", name := "addLocator", desc := "(II)V" } : Jvm.MethodName) ∈ mGd := lk_5 (List.mem_of_getElem? (i := 42) rfl) rfl

theorem gw_1003 : Cond.code ({ cls := "Collationer$Entry", name := "addLocator", desc := "(II)V" } : Jvm.MethodName) prog_6_method_18_code (5 : Nat) (Option.none : Option FieldType) ∈ mGd := lk_5 (List.mem_of_getElem? (i := 43) rfl) rfl

theorem gw_783 : Cond.methodLink "Collationer" (291 : Nat) ({ cls := "Collationer$Entry", name := "seen", desc := "()I" } : Jvm.MethodName) ∈ mGd := lk_4 (List.mem_of_getElem? (i := 63) rfl) rfl

theorem gw_784 : Cond.instanceMethod ({ cls := "Collationer$Entry", name := "seen", desc := "()I" } : Jvm.MethodName) ∈ mGd := lk_4 (List.mem_of_getElem? (i := 64) rfl) rfl

theorem gw_785 : Cond.selects "Collationer$Entry" ({ cls := "Collationer$Entry", name := "seen", desc := "()I" } : Jvm.MethodName) ({ cls := "Collationer$Entry", name := "seen", desc := "()I" } : Jvm.MethodName) ∈ mGd := lk_4 (List.mem_of_getElem? (i := 65) rfl) rfl

theorem gw_786 : Cond.code ({ cls := "Collationer$Entry", name := "seen", desc := "()I" } : Jvm.MethodName) prog_6_method_20_code (1 : Nat) (Option.some FieldType.int) ∈ mGd := lk_4 (List.mem_of_getElem? (i := 66) rfl) rfl

theorem gw_795 : Cond.methodLink "Collationer" (296 : Nat) ({ cls := "Collationer$Entry", name := "seesAlso", desc := "(I)Z" } : Jvm.MethodName) ∈ mGd := lk_4 (List.mem_of_getElem? (i := 75) rfl) rfl

theorem gw_796 : Cond.instanceMethod ({ cls := "Collationer$Entry", name := "seesAlso", desc := "(I)Z" } : Jvm.MethodName) ∈ mGd := lk_4 (List.mem_of_getElem? (i := 76) rfl) rfl

theorem gw_797 : Cond.selects "Collationer$Entry" ({ cls := "Collationer$Entry", name := "seesAlso", desc := "(I)Z" } : Jvm.MethodName) ({ cls := "Collationer$Entry", name := "seesAlso", desc := "(I)Z" } : Jvm.MethodName) ∈ mGd := lk_4 (List.mem_of_getElem? (i := 77) rfl) rfl

theorem gw_798 : Cond.code ({ cls := "Collationer$Entry", name := "seesAlso", desc := "(I)Z" } : Jvm.MethodName) prog_6_method_21_code (2 : Nat) (Option.some FieldType.boolean) ∈ mGd := lk_4 (List.mem_of_getElem? (i := 78) rfl) rfl

theorem gw_1013 : Cond.methodLink "Collationer" (299 : Nat) ({ cls := "Collationer$Entry", name := "addReference", desc := "(IZ)V" } : Jvm.MethodName) ∈ mGd := lk_5 (List.mem_of_getElem? (i := 53) rfl) rfl

theorem gw_1014 : Cond.instanceMethod ({ cls := "Collationer$Entry", name := "addReference", desc := "(IZ)V" } : Jvm.MethodName) ∈ mGd := lk_5 (List.mem_of_getElem? (i := 54) rfl) rfl

theorem gw_1015 : Cond.selects "Collationer$Entry" ({ cls := "Collationer$Entry", name := "addReference", desc := "(IZ)V" } : Jvm.MethodName) ({ cls := "Collationer$Entry", name := "addReference", desc := "(IZ)V" } : Jvm.MethodName) ∈ mGd := lk_5 (List.mem_of_getElem? (i := 55) rfl) rfl

theorem gw_1016 : Cond.code ({ cls := "Collationer$Entry", name := "addReference", desc := "(IZ)V" } : Jvm.MethodName) prog_6_method_23_code (3 : Nat) (Option.none : Option FieldType) ∈ mGd := lk_5 (List.mem_of_getElem? (i := 56) rfl) rfl

theorem gw_692 : Cond.methodLink "Collationer" (304 : Nat) ({ cls := "Collationer$Corpus", name := "wordCount", desc := "()I" } : Jvm.MethodName) ∈ mGd := lk_3 (List.mem_of_getElem? (i := 212) rfl) rfl

theorem gw_693 : Cond.instanceMethod ({ cls := "Collationer$Corpus", name := "wordCount", desc := "()I" } : Jvm.MethodName) ∈ mGd := lk_3 (List.mem_of_getElem? (i := 213) rfl) rfl

theorem gw_694 : Cond.selects "Collationer$Corpus" ({ cls := "Collationer$Corpus", name := "wordCount", desc := "()I" } : Jvm.MethodName) ({ cls := "Collationer$Corpus", name := "wordCount", desc := "()I" } : Jvm.MethodName) ∈ mGd := lk_3 (List.mem_of_getElem? (i := 214) rfl) rfl

theorem gw_695 : Cond.code ({ cls := "Collationer$Corpus", name := "wordCount", desc := "()I" } : Jvm.MethodName) prog_4_method_2_code (1 : Nat) (Option.some FieldType.int) ∈ mGd := lk_3 (List.mem_of_getElem? (i := 215) rfl) rfl

theorem gw_713 : Cond.methodLink "Collationer" (309 : Nat) ({ cls := "Collationer$Corpus", name := "addWord", desc := "(I)V" } : Jvm.MethodName) ∈ mGd := lk_3 (List.mem_of_getElem? (i := 233) rfl) rfl

theorem gw_714 : Cond.instanceMethod ({ cls := "Collationer$Corpus", name := "addWord", desc := "(I)V" } : Jvm.MethodName) ∈ mGd := lk_3 (List.mem_of_getElem? (i := 234) rfl) rfl

theorem gw_715 : Cond.selects "Collationer$Corpus" ({ cls := "Collationer$Corpus", name := "addWord", desc := "(I)V" } : Jvm.MethodName) ({ cls := "Collationer$Corpus", name := "addWord", desc := "(I)V" } : Jvm.MethodName) ∈ mGd := lk_3 (List.mem_of_getElem? (i := 235) rfl) rfl

theorem gw_716 : Cond.code ({ cls := "Collationer$Corpus", name := "addWord", desc := "(I)V" } : Jvm.MethodName) prog_4_method_4_code (2 : Nat) (Option.none : Option FieldType) ∈ mGd := lk_3 (List.mem_of_getElem? (i := 236) rfl) rfl

theorem gw_722 : Cond.methodLink "Collationer" (353 : Nat) ({ cls := "Collationer", name := "isSide", desc := "(I)Z" } : Jvm.MethodName) ∈ mGd := lk_4 (List.mem_of_getElem? (i := 2) rfl) rfl

theorem gw_723 : Cond.static ({ cls := "Collationer", name := "isSide", desc := "(I)Z" } : Jvm.MethodName) ∈ mGd := lk_4 (List.mem_of_getElem? (i := 3) rfl) rfl

theorem gw_724 : Cond.code ({ cls := "Collationer", name := "isSide", desc := "(I)Z" } : Jvm.MethodName) prog_1_method_51_code (1 : Nat) (Option.some FieldType.boolean) ∈ mGd := lk_4 (List.mem_of_getElem? (i := 4) rfl) rfl

theorem gw_569 : Cond.methodLink "Collationer" (360 : Nat) ({ cls := "Collationer$Row", name := "at", desc := "(I)I" } : Jvm.MethodName) ∈ mGd := lk_3 (List.mem_of_getElem? (i := 89) rfl) rfl

theorem gw_1125 : Cond.methodLink "Collationer" (363 : Nat) ({ cls := "Collationer$Compositions", name := "putTogether", desc := "(LCollationer$Row;LCollationer$Row;)V" } : Jvm.MethodName) ∈ mGd := lk_5 (List.mem_of_getElem? (i := 165) rfl) rfl

theorem gw_1126 : Cond.instanceMethod ({ cls := "Collationer$Compositions", name := "putTogether", desc := "(LCollationer$Row;LCollationer$Row;)V" } : Jvm.MethodName) ∈ mGd := lk_5 (List.mem_of_getElem? (i := 166) rfl) rfl

theorem gw_1127 : Cond.selects "Collationer$Compositions" ({ cls := "Collationer$Compositions", name := "putTogether", desc := "(LCollationer$Row;LCollationer$Row;)V" } : Jvm.MethodName) ({ cls := "Collationer$Compositions", name := "putTogether", desc := "(LCollationer$Row;LCollationer$Row;)V" } : Jvm.MethodName) ∈ mGd := lk_5 (List.mem_of_getElem? (i := 167) rfl) rfl

theorem gw_1128 : Cond.code ({ cls := "Collationer$Compositions", name := "putTogether", desc := "(LCollationer$Row;LCollationer$Row;)V" } : Jvm.MethodName) prog_3_method_12_code (9 : Nat) (Option.none : Option FieldType) ∈ mGd := lk_5 (List.mem_of_getElem? (i := 168) rfl) rfl

theorem gw_1076 : Cond.methodLink "Collationer" (366 : Nat) ({ cls := "Collationer$Tailoring", name := "itemCount", desc := "()I" } : Jvm.MethodName) ∈ mGd := lk_5 (List.mem_of_getElem? (i := 116) rfl) rfl

theorem gw_1077 : Cond.instanceMethod ({ cls := "Collationer$Tailoring", name := "itemCount", desc := "()I" } : Jvm.MethodName) ∈ mGd := lk_5 (List.mem_of_getElem? (i := 117) rfl) rfl

theorem gw_1078 : Cond.selects "Collationer$Tailoring" ({ cls := "Collationer$Tailoring", name := "itemCount", desc := "()I" } : Jvm.MethodName) ({ cls := "Collationer$Tailoring", name := "itemCount", desc := "()I" } : Jvm.MethodName) ∈ mGd := lk_5 (List.mem_of_getElem? (i := 118) rfl) rfl

theorem gw_1079 : Cond.code ({ cls := "Collationer$Tailoring", name := "itemCount", desc := "()I" } : Jvm.MethodName) prog_11_method_6_code (1 : Nat) (Option.some FieldType.int) ∈ mGd := lk_5 (List.mem_of_getElem? (i := 119) rfl) rfl

theorem gw_1081 : Cond.methodLink "Collationer" (371 : Nat) ({ cls := "Collationer$Tailoring", name := "levelAndItem", desc := "(I)I" } : Jvm.MethodName) ∈ mGd := lk_5 (List.mem_of_getElem? (i := 121) rfl) rfl

theorem gw_1082 : Cond.instanceMethod ({ cls := "Collationer$Tailoring", name := "levelAndItem", desc := "(I)I" } : Jvm.MethodName) ∈ mGd := lk_5 (List.mem_of_getElem? (i := 122) rfl) rfl

theorem gw_1083 : Cond.selects "Collationer$Tailoring" ({ cls := "Collationer$Tailoring", name := "levelAndItem", desc := "(I)I" } : Jvm.MethodName) ({ cls := "Collationer$Tailoring", name := "levelAndItem", desc := "(I)I" } : Jvm.MethodName) ∈ mGd := lk_5 (List.mem_of_getElem? (i := 123) rfl) rfl

theorem gw_1084 : Cond.code ({ cls := "Collationer$Tailoring", name := "levelAndItem", desc := "(I)I" } : Jvm.MethodName) prog_11_method_8_code (2 : Nat) (Option.some FieldType.int) ∈ mGd := lk_5 (List.mem_of_getElem? (i := 124) rfl) rfl

theorem gw_1195 : Cond.methodLink "Collationer" (380 : Nat) ({ cls := "Collationer", name := "isStrength", desc := "(I)Z" } : Jvm.MethodName) ∈ mGd := lk_5 (List.mem_of_getElem? (i := 235) rfl) rfl

theorem gw_1196 : Cond.static ({ cls := "Collationer", name := "isStrength", desc := "(I)Z" } : Jvm.MethodName) ∈ mGd := lk_5 (List.mem_of_getElem? (i := 236) rfl) rfl

theorem gw_1197 : Cond.code ({ cls := "Collationer", name := "isStrength", desc := "(I)Z" } : Jvm.MethodName) prog_1_method_49_code (1 : Nat) (Option.some FieldType.boolean) ∈ mGd := lk_5 (List.mem_of_getElem? (i := 237) rfl) rfl

theorem gw_1218 : Cond.methodLink "Collationer" (385 : Nat) ({ cls := "Collationer$Collator", name := "byteAt", desc := "(LCollationer$Tailoring;ILCollationer$Row;I)I" } : Jvm.MethodName) ∈ mGd := lk_6 (List.mem_of_getElem? (i := 18) rfl) rfl

theorem gw_1219 : Cond.instanceMethod ({ cls := "Collationer$Collator", name := "byteAt", desc := "(LCollationer$Tailoring;ILCollationer$Row;I)I" } : Jvm.MethodName) ∈ mGd := lk_6 (List.mem_of_getElem? (i := 19) rfl) rfl

theorem gw_1220 : Cond.selects "Collationer$Collator" ({ cls := "Collationer$Collator", name := "byteAt", desc := "(LCollationer$Tailoring;ILCollationer$Row;I)I" } : Jvm.MethodName) ({ cls := "Collationer$Collator", name := "byteAt", desc := "(LCollationer$Tailoring;ILCollationer$Row;I)I" } : Jvm.MethodName) ∈ mGd := lk_6 (List.mem_of_getElem? (i := 20) rfl) rfl

theorem gw_1221 : Cond.code ({ cls := "Collationer$Collator", name := "byteAt", desc := "(LCollationer$Tailoring;ILCollationer$Row;I)I" } : Jvm.MethodName) prog_2_method_8_code (5 : Nat) (Option.some FieldType.int) ∈ mGd := lk_6 (List.mem_of_getElem? (i := 21) rfl) rfl

theorem gw_1199 : Cond.methodLink "Collationer" (391 : Nat) ({ cls := "Collationer$Collator", name := "compareByKeys", desc := "(LCollationer$Tailoring;ILCollationer$Row;LCollationer$Row;)I" } : Jvm.MethodName) ∈ mGd := lk_5 (List.mem_of_getElem? (i := 239) rfl) rfl

theorem gw_1200 : Cond.instanceMethod ({ cls := "Collationer$Collator", name := "compareByKeys", desc := "(LCollationer$Tailoring;ILCollationer$Row;LCollationer$Row;)I" } : Jvm.MethodName) ∈ mGd := lk_6 (List.mem_of_getElem? (i := 0) rfl) rfl

theorem gw_1201 : Cond.selects "Collationer$Collator" ({ cls := "Collationer$Collator", name := "compareByKeys", desc := "(LCollationer$Tailoring;ILCollationer$Row;LCollationer$Row;)I" } : Jvm.MethodName) ({ cls := "Collationer$Collator", name := "compareByKeys", desc := "(LCollationer$Tailoring;ILCollationer$Row;LCollationer$Row;)I" } : Jvm.MethodName) ∈ mGd := lk_6 (List.mem_of_getElem? (i := 1) rfl) rfl

theorem gw_1202 : Cond.code ({ cls := "Collationer$Collator", name := "compareByKeys", desc := "(LCollationer$Tailoring;ILCollationer$Row;LCollationer$Row;)I" } : Jvm.MethodName) prog_2_method_9_code (5 : Nat) (Option.some FieldType.int) ∈ mGd := lk_6 (List.mem_of_getElem? (i := 2) rfl) rfl

theorem gw_1209 : Cond.methodLink "Collationer" (395 : Nat) ({ cls := "Collationer$Collator", name := "compareByRows", desc := "(LCollationer$Tailoring;ILCollationer$Row;LCollationer$Row;)I" } : Jvm.MethodName) ∈ mGd := lk_6 (List.mem_of_getElem? (i := 9) rfl) rfl

theorem gw_1210 : Cond.instanceMethod ({ cls := "Collationer$Collator", name := "compareByRows", desc := "(LCollationer$Tailoring;ILCollationer$Row;LCollationer$Row;)I" } : Jvm.MethodName) ∈ mGd := lk_6 (List.mem_of_getElem? (i := 10) rfl) rfl

theorem gw_1211 : Cond.selects "Collationer$Collator" ({ cls := "Collationer$Collator", name := "compareByRows", desc := "(LCollationer$Tailoring;ILCollationer$Row;LCollationer$Row;)I" } : Jvm.MethodName) ({ cls := "Collationer$Collator", name := "compareByRows", desc := "(LCollationer$Tailoring;ILCollationer$Row;LCollationer$Row;)I" } : Jvm.MethodName) ∈ mGd := lk_6 (List.mem_of_getElem? (i := 11) rfl) rfl

theorem gw_1212 : Cond.code ({ cls := "Collationer$Collator", name := "compareByRows", desc := "(LCollationer$Tailoring;ILCollationer$Row;LCollationer$Row;)I" } : Jvm.MethodName) prog_2_method_10_code (7 : Nat) (Option.some FieldType.int) ∈ mGd := lk_6 (List.mem_of_getElem? (i := 12) rfl) rfl

theorem gw_1090 : Cond.methodLink "Collationer" (406 : Nat) ({ cls := "Collationer", name := "isInIndex", desc := "(II)Z" } : Jvm.MethodName) ∈ mGd := lk_5 (List.mem_of_getElem? (i := 130) rfl) rfl

theorem gw_1092 : Cond.instanceMethod ({ cls := "Collationer", name := "isInIndex", desc := "(II)Z" } : Jvm.MethodName) ∈ mGd := lk_5 (List.mem_of_getElem? (i := 132) rfl) rfl

theorem gs_168 : Cond.selects "Collationer" ⟨"Collationer", "isInIndex", "(II)Z"⟩ ⟨"Collationer", "isInIndex", "(II)Z"⟩ ∈ mGd := lp_3 (q := (⟨"Collationer", "isInIndex", "(II)Z"⟩, 20)) (List.mem_of_getElem? (i := 8) rfl)

theorem gw_1093 : Cond.code ({ cls := "Collationer", name := "isInIndex", desc := "(II)Z" } : Jvm.MethodName) prog_1_method_42_code (3 : Nat) (Option.some FieldType.boolean) ∈ mGd := lk_5 (List.mem_of_getElem? (i := 133) rfl) rfl

theorem gw_1099 : Cond.methodLink "Collationer" (411 : Nat) ({ cls := "Collationer", name := "headingAbove", desc := "(II)I" } : Jvm.MethodName) ∈ mGd := lk_5 (List.mem_of_getElem? (i := 139) rfl) rfl

theorem gw_1101 : Cond.instanceMethod ({ cls := "Collationer", name := "headingAbove", desc := "(II)I" } : Jvm.MethodName) ∈ mGd := lk_5 (List.mem_of_getElem? (i := 141) rfl) rfl

theorem gs_194 : Cond.selects "Collationer" ⟨"Collationer", "headingAbove", "(II)I"⟩ ⟨"Collationer", "headingAbove", "(II)I"⟩ ∈ mGd := lp_3 (q := (⟨"Collationer", "headingAbove", "(II)I"⟩, 20)) (List.mem_of_getElem? (i := 10) rfl)

theorem gw_1102 : Cond.code ({ cls := "Collationer", name := "headingAbove", desc := "(II)I" } : Jvm.MethodName) prog_1_method_68_code (7 : Nat) (Option.some FieldType.int) ∈ mGd := lk_5 (List.mem_of_getElem? (i := 142) rfl) rfl

theorem gw_1131 : Cond.methodLink "Collationer" (416 : Nat) ({ cls := "Collationer$Groups", name := "gather", desc := "(LCollationer$Row;)V" } : Jvm.MethodName) ∈ mGd := lk_5 (List.mem_of_getElem? (i := 171) rfl) rfl

theorem gw_1132 : Cond.instanceMethod ({ cls := "Collationer$Groups", name := "gather", desc := "(LCollationer$Row;)V" } : Jvm.MethodName) ∈ mGd := lk_5 (List.mem_of_getElem? (i := 172) rfl) rfl

theorem gw_1133 : Cond.selects "Collationer$Groups" ({ cls := "Collationer$Groups", name := "gather", desc := "(LCollationer$Row;)V" } : Jvm.MethodName) ({ cls := "Collationer$Groups", name := "gather", desc := "(LCollationer$Row;)V" } : Jvm.MethodName) ∈ mGd := lk_5 (List.mem_of_getElem? (i := 173) rfl) rfl

theorem gw_1134 : Cond.code ({ cls := "Collationer$Groups", name := "gather", desc := "(LCollationer$Row;)V" } : Jvm.MethodName) prog_7_method_4_code (3 : Nat) (Option.none : Option FieldType) ∈ mGd := lk_5 (List.mem_of_getElem? (i := 174) rfl) rfl

theorem gw_1241 : Cond.methodLink "Collationer" (419 : Nat) ({ cls := "Collationer$Groups", name := "asNumber", desc := "(I)I" } : Jvm.MethodName) ∈ mGd := lk_6 (List.mem_of_getElem? (i := 41) rfl) rfl

theorem gw_1242 : Cond.instanceMethod ({ cls := "Collationer$Groups", name := "asNumber", desc := "(I)I" } : Jvm.MethodName) ∈ mGd := lk_6 (List.mem_of_getElem? (i := 42) rfl) rfl

theorem gw_1243 : Cond.selects "Collationer$Groups" ({ cls := "Collationer$Groups", name := "asNumber", desc := "(I)I" } : Jvm.MethodName) ({ cls := "Collationer$Groups", name := "asNumber", desc := "(I)I" } : Jvm.MethodName) ∈ mGd := lk_6 (List.mem_of_getElem? (i := 43) rfl) rfl

theorem gw_1244 : Cond.code ({ cls := "Collationer$Groups", name := "asNumber", desc := "(I)I" } : Jvm.MethodName) prog_7_method_3_code (2 : Nat) (Option.some FieldType.int) ∈ mGd := lk_6 (List.mem_of_getElem? (i := 44) rfl) rfl

theorem gw_767 : Cond.methodLink "Collationer" (422 : Nat) ({ cls := "Collationer", name := "endOfReferences", desc := "(I)I" } : Jvm.MethodName) ∈ mGd := lk_4 (List.mem_of_getElem? (i := 47) rfl) rfl

theorem gw_769 : Cond.instanceMethod ({ cls := "Collationer", name := "endOfReferences", desc := "(I)I" } : Jvm.MethodName) ∈ mGd := lk_4 (List.mem_of_getElem? (i := 49) rfl) rfl

theorem gs_197 : Cond.selects "Collationer" ⟨"Collationer", "endOfReferences", "(I)I"⟩ ⟨"Collationer", "endOfReferences", "(I)I"⟩ ∈ mGd := lp_2 (q := (⟨"Collationer", "endOfReferences", "(I)I"⟩, 20)) (List.mem_of_getElem? (i := 6) rfl)

theorem gw_770 : Cond.code ({ cls := "Collationer", name := "endOfReferences", desc := "(I)I" } : Jvm.MethodName) prog_1_method_71_code (4 : Nat) (Option.some FieldType.int) ∈ mGd := lk_4 (List.mem_of_getElem? (i := 50) rfl) rfl

theorem gw_791 : Cond.methodLink "Collationer" (425 : Nat) ({ cls := "Collationer", name := "referencesTo", desc := "(I)I" } : Jvm.MethodName) ∈ mGd := lk_4 (List.mem_of_getElem? (i := 71) rfl) rfl

theorem gw_793 : Cond.instanceMethod ({ cls := "Collationer", name := "referencesTo", desc := "(I)I" } : Jvm.MethodName) ∈ mGd := lk_4 (List.mem_of_getElem? (i := 73) rfl) rfl

theorem gs_199 : Cond.selects "Collationer" ⟨"Collationer", "referencesTo", "(I)I"⟩ ⟨"Collationer", "referencesTo", "(I)I"⟩ ∈ mGd := lp_2 (q := (⟨"Collationer", "referencesTo", "(I)I"⟩, 20)) (List.mem_of_getElem? (i := 8) rfl)

theorem gw_794 : Cond.code ({ cls := "Collationer", name := "referencesTo", desc := "(I)I" } : Jvm.MethodName) prog_1_method_73_code (4 : Nat) (Option.some FieldType.int) ∈ mGd := lk_4 (List.mem_of_getElem? (i := 74) rfl) rfl

theorem gw_804 : Cond.methodLink "Collationer" (430 : Nat) ({ cls := "Collationer$Index", name := "before", desc := "()LCollationer$Row;" } : Jvm.MethodName) ∈ mGd := lk_4 (List.mem_of_getElem? (i := 84) rfl) rfl

theorem gw_805 : Cond.instanceMethod ({ cls := "Collationer$Index", name := "before", desc := "()LCollationer$Row;" } : Jvm.MethodName) ∈ mGd := lk_4 (List.mem_of_getElem? (i := 85) rfl) rfl

theorem gw_806 : Cond.selects "Collationer$Index" ({ cls := "Collationer$Index", name := "before", desc := "()LCollationer$Row;" } : Jvm.MethodName) ({ cls := "Collationer$Index", name := "before", desc := "()LCollationer$Row;" } : Jvm.MethodName) ∈ mGd := lk_4 (List.mem_of_getElem? (i := 86) rfl) rfl

theorem gw_807 : Cond.code ({ cls := "Collationer$Index", name := "before", desc := "()LCollationer$Row;" } : Jvm.MethodName) prog_8_method_8_code (1 : Nat) (Option.some (FieldType.object "Collationer$Row")) ∈ mGd := lk_4 (List.mem_of_getElem? (i := 87) rfl) rfl

theorem gw_1095 : Cond.methodLink "Collationer" (433 : Nat) ({ cls := "Collationer", name := "lineInColumns", desc := "(ILCollationer$Row;I)I" } : Jvm.MethodName) ∈ mGd := lk_5 (List.mem_of_getElem? (i := 135) rfl) rfl

theorem gw_1097 : Cond.instanceMethod ({ cls := "Collationer", name := "lineInColumns", desc := "(ILCollationer$Row;I)I" } : Jvm.MethodName) ∈ mGd := lk_5 (List.mem_of_getElem? (i := 137) rfl) rfl

theorem gs_200 : Cond.selects "Collationer" ⟨"Collationer", "lineInColumns", "(ILCollationer$Row;I)I"⟩ ⟨"Collationer", "lineInColumns", "(ILCollationer$Row;I)I"⟩ ∈ mGd := lp_3 (q := (⟨"Collationer", "lineInColumns", "(ILCollationer$Row;I)I"⟩, 20)) (List.mem_of_getElem? (i := 9) rfl)

theorem gw_1098 : Cond.code ({ cls := "Collationer", name := "lineInColumns", desc := "(ILCollationer$Row;I)I" } : Jvm.MethodName) prog_1_method_74_code (14 : Nat) (Option.some FieldType.int) ∈ mGd := lk_5 (List.mem_of_getElem? (i := 138) rfl) rfl

theorem gw_1021 : Cond.methodLink "Collationer" (437 : Nat) ({ cls := "Collationer$Corpus", name := "countOf", desc := "(I)I" } : Jvm.MethodName) ∈ mGd := lk_5 (List.mem_of_getElem? (i := 61) rfl) rfl

theorem gw_1022 : Cond.instanceMethod ({ cls := "Collationer$Corpus", name := "countOf", desc := "(I)I" } : Jvm.MethodName) ∈ mGd := lk_5 (List.mem_of_getElem? (i := 62) rfl) rfl

theorem gw_1023 : Cond.selects "Collationer$Corpus" ({ cls := "Collationer$Corpus", name := "countOf", desc := "(I)I" } : Jvm.MethodName) ({ cls := "Collationer$Corpus", name := "countOf", desc := "(I)I" } : Jvm.MethodName) ∈ mGd := lk_5 (List.mem_of_getElem? (i := 63) rfl) rfl

theorem gw_1024 : Cond.code ({ cls := "Collationer$Corpus", name := "countOf", desc := "(I)I" } : Jvm.MethodName) prog_4_method_10_code (4 : Nat) (Option.some FieldType.int) ∈ mGd := lk_5 (List.mem_of_getElem? (i := 64) rfl) rfl

theorem gw_1045 : Cond.methodLink "Collationer" (442 : Nat) ({ cls := "Collationer", name := "orderLines", desc := "(IZ)V" } : Jvm.MethodName) ∈ mGd := lk_5 (List.mem_of_getElem? (i := 85) rfl) rfl

theorem gw_1047 : Cond.instanceMethod ({ cls := "Collationer", name := "orderLines", desc := "(IZ)V" } : Jvm.MethodName) ∈ mGd := lk_5 (List.mem_of_getElem? (i := 87) rfl) rfl

theorem gs_203 : Cond.selects "Collationer" ⟨"Collationer", "orderLines", "(IZ)V"⟩ ⟨"Collationer", "orderLines", "(IZ)V"⟩ ∈ mGd := lp_3 (q := (⟨"Collationer", "orderLines", "(IZ)V"⟩, 20)) (List.mem_of_getElem? (i := 4) rfl)

theorem gw_1048 : Cond.code ({ cls := "Collationer", name := "orderLines", desc := "(IZ)V" } : Jvm.MethodName) prog_1_method_77_code (4 : Nat) (Option.none : Option FieldType) ∈ mGd := lk_5 (List.mem_of_getElem? (i := 88) rfl) rfl

theorem gw_630 : Cond.methodLink "Collationer" (445 : Nat) ({ cls := "Collationer$Entry", name := "isIn", desc := "(I)Z" } : Jvm.MethodName) ∈ mGd := lk_3 (List.mem_of_getElem? (i := 150) rfl) rfl

theorem gw_631 : Cond.instanceMethod ({ cls := "Collationer$Entry", name := "isIn", desc := "(I)Z" } : Jvm.MethodName) ∈ mGd := lk_3 (List.mem_of_getElem? (i := 151) rfl) rfl

theorem gw_632 : Cond.selects "Collationer$Entry" ({ cls := "Collationer$Entry", name := "isIn", desc := "(I)Z" } : Jvm.MethodName) ({ cls := "Collationer$Entry", name := "isIn", desc := "(I)Z" } : Jvm.MethodName) ∈ mGd := lk_3 (List.mem_of_getElem? (i := 152) rfl) rfl

theorem gw_633 : Cond.code ({ cls := "Collationer$Entry", name := "isIn", desc := "(I)Z" } : Jvm.MethodName) prog_6_method_7_code (2 : Nat) (Option.some FieldType.boolean) ∈ mGd := lk_3 (List.mem_of_getElem? (i := 153) rfl) rfl

theorem gw_582 : Cond.fieldLink "Collationer" (448 : Nat) "Collationer" "MARK_CLASSES" "[I" ∈ mGd := lk_3 (List.mem_of_getElem? (i := 102) rfl) rfl

theorem gw_595 : Cond.methodLink "Collationer" (452 : Nat) ({ cls := "Collationer", name := "signsIn", desc := "(I)I" } : Jvm.MethodName) ∈ mGd := lk_3 (List.mem_of_getElem? (i := 115) rfl) rfl

theorem gw_446 : Cond.methodLink "Collationer" (455 : Nat) ({ cls := "Collationer", name := "indexNumbered", desc := "(I)LCollationer$Index;" } : Jvm.MethodName) ∈ mGd := lk_2 (List.mem_of_getElem? (i := 206) rfl) rfl

theorem gw_448 : Cond.instanceMethod ({ cls := "Collationer", name := "indexNumbered", desc := "(I)LCollationer$Index;" } : Jvm.MethodName) ∈ mGd := lk_2 (List.mem_of_getElem? (i := 208) rfl) rfl

theorem gs_173 : Cond.selects "Collationer" ⟨"Collationer", "indexNumbered", "(I)LCollationer$Index;"⟩ ⟨"Collationer", "indexNumbered", "(I)LCollationer$Index;"⟩ ∈ mGd := lp_1 (q := (⟨"Collationer", "indexNumbered", "(I)LCollationer$Index;"⟩, 20)) (List.mem_of_getElem? (i := 4) rfl)

theorem gw_449 : Cond.code ({ cls := "Collationer", name := "indexNumbered", desc := "(I)LCollationer$Index;" } : Jvm.MethodName) prog_1_method_47_code (2 : Nat) (Option.some (FieldType.object "Collationer$Index")) ∈ mGd := lk_2 (List.mem_of_getElem? (i := 209) rfl) rfl

theorem gw_450 : Cond.methodLink "Collationer" (459 : Nat) ({ cls := "Collationer$Index", name := "isOrdered", desc := "()Z" } : Jvm.MethodName) ∈ mGd := lk_2 (List.mem_of_getElem? (i := 210) rfl) rfl

theorem gw_451 : Cond.instanceMethod ({ cls := "Collationer$Index", name := "isOrdered", desc := "()Z" } : Jvm.MethodName) ∈ mGd := lk_2 (List.mem_of_getElem? (i := 211) rfl) rfl

theorem gw_452 : Cond.selects "Collationer$Index" ({ cls := "Collationer$Index", name := "isOrdered", desc := "()Z" } : Jvm.MethodName) ({ cls := "Collationer$Index", name := "isOrdered", desc := "()Z" } : Jvm.MethodName) ∈ mGd := lk_2 (List.mem_of_getElem? (i := 212) rfl) rfl

theorem gw_453 : Cond.code ({ cls := "Collationer$Index", name := "isOrdered", desc := "()Z" } : Jvm.MethodName) prog_8_method_2_code (1 : Nat) (Option.some FieldType.boolean) ∈ mGd := lk_2 (List.mem_of_getElem? (i := 213) rfl) rfl

theorem gw_454 : Cond.methodLink "Collationer" (462 : Nat) ({ cls := "Collationer$Index", name := "order", desc := "()LCollationer$Row;" } : Jvm.MethodName) ∈ mGd := lk_2 (List.mem_of_getElem? (i := 214) rfl) rfl

theorem gw_455 : Cond.instanceMethod ({ cls := "Collationer$Index", name := "order", desc := "()LCollationer$Row;" } : Jvm.MethodName) ∈ mGd := lk_2 (List.mem_of_getElem? (i := 215) rfl) rfl

theorem gw_456 : Cond.selects "Collationer$Index" ({ cls := "Collationer$Index", name := "order", desc := "()LCollationer$Row;" } : Jvm.MethodName) ({ cls := "Collationer$Index", name := "order", desc := "()LCollationer$Row;" } : Jvm.MethodName) ∈ mGd := lk_2 (List.mem_of_getElem? (i := 216) rfl) rfl

theorem gw_457 : Cond.code ({ cls := "Collationer$Index", name := "order", desc := "()LCollationer$Row;" } : Jvm.MethodName) prog_8_method_3_code (1 : Nat) (Option.some (FieldType.object "Collationer$Row")) ∈ mGd := lk_2 (List.mem_of_getElem? (i := 217) rfl) rfl

theorem gw_458 : Cond.methodLink "Collationer" (465 : Nat) ({ cls := "Collationer$Index", name := "begin", desc := "()V" } : Jvm.MethodName) ∈ mGd := lk_2 (List.mem_of_getElem? (i := 218) rfl) rfl

theorem gw_459 : Cond.instanceMethod ({ cls := "Collationer$Index", name := "begin", desc := "()V" } : Jvm.MethodName) ∈ mGd := lk_2 (List.mem_of_getElem? (i := 219) rfl) rfl

theorem gw_460 : Cond.selects "Collationer$Index" ({ cls := "Collationer$Index", name := "begin", desc := "()V" } : Jvm.MethodName) ({ cls := "Collationer$Index", name := "begin", desc := "()V" } : Jvm.MethodName) ∈ mGd := lk_2 (List.mem_of_getElem? (i := 220) rfl) rfl

theorem gw_461 : Cond.code ({ cls := "Collationer$Index", name := "begin", desc := "()V" } : Jvm.MethodName) prog_8_method_4_code (1 : Nat) (Option.none : Option FieldType) ∈ mGd := lk_2 (List.mem_of_getElem? (i := 221) rfl) rfl

theorem gw_467 : Cond.methodLink "Collationer" (467 : Nat) ({ cls := "Collationer", name := "putForm", desc := "(LCollationer$Entry;LCollationer$Row;)V" } : Jvm.MethodName) ∈ mGd := lk_2 (List.mem_of_getElem? (i := 227) rfl) rfl

theorem gw_469 : Cond.instanceMethod ({ cls := "Collationer", name := "putForm", desc := "(LCollationer$Entry;LCollationer$Row;)V" } : Jvm.MethodName) ∈ mGd := lk_2 (List.mem_of_getElem? (i := 229) rfl) rfl

theorem gs_193 : Cond.selects "Collationer" ⟨"Collationer", "putForm", "(LCollationer$Entry;LCollationer$Row;)V"⟩ ⟨"Collationer", "putForm", "(LCollationer$Entry;LCollationer$Row;)V"⟩ ∈ mGd := lp_1 (q := (⟨"Collationer", "putForm", "(LCollationer$Entry;LCollationer$Row;)V"⟩, 20)) (List.mem_of_getElem? (i := 6) rfl)

theorem gw_470 : Cond.code ({ cls := "Collationer", name := "putForm", desc := "(LCollationer$Entry;LCollationer$Row;)V" } : Jvm.MethodName) prog_1_method_67_code (4 : Nat) (Option.none : Option FieldType) ∈ mGd := lk_2 (List.mem_of_getElem? (i := 230) rfl) rfl

theorem gw_495 : Cond.methodLink "Collationer" (471 : Nat) ({ cls := "Collationer", name := "tailoringNumbered", desc := "(I)LCollationer$Tailoring;" } : Jvm.MethodName) ∈ mGd := lk_3 (List.mem_of_getElem? (i := 15) rfl) rfl

theorem gw_497 : Cond.instanceMethod ({ cls := "Collationer", name := "tailoringNumbered", desc := "(I)LCollationer$Tailoring;" } : Jvm.MethodName) ∈ mGd := lk_3 (List.mem_of_getElem? (i := 17) rfl) rfl

theorem gs_172 : Cond.selects "Collationer" ⟨"Collationer", "tailoringNumbered", "(I)LCollationer$Tailoring;"⟩ ⟨"Collationer", "tailoringNumbered", "(I)LCollationer$Tailoring;"⟩ ∈ mGd := lp_1 (q := (⟨"Collationer", "tailoringNumbered", "(I)LCollationer$Tailoring;"⟩, 20)) (List.mem_of_getElem? (i := 8) rfl)

theorem gw_498 : Cond.code ({ cls := "Collationer", name := "tailoringNumbered", desc := "(I)LCollationer$Tailoring;" } : Jvm.MethodName) prog_1_method_46_code (2 : Nat) (Option.some (FieldType.object "Collationer$Tailoring")) ∈ mGd := lk_3 (List.mem_of_getElem? (i := 18) rfl) rfl

theorem gw_499 : Cond.methodLink "Collationer" (475 : Nat) ({ cls := "Collationer", name := "keyNumbered", desc := "(I)LCollationer$Row;" } : Jvm.MethodName) ∈ mGd := lk_3 (List.mem_of_getElem? (i := 19) rfl) rfl

theorem gw_501 : Cond.instanceMethod ({ cls := "Collationer", name := "keyNumbered", desc := "(I)LCollationer$Row;" } : Jvm.MethodName) ∈ mGd := lk_3 (List.mem_of_getElem? (i := 21) rfl) rfl

theorem gs_170 : Cond.selects "Collationer" ⟨"Collationer", "keyNumbered", "(I)LCollationer$Row;"⟩ ⟨"Collationer", "keyNumbered", "(I)LCollationer$Row;"⟩ ∈ mGd := lp_1 (q := (⟨"Collationer", "keyNumbered", "(I)LCollationer$Row;"⟩, 20)) (List.mem_of_getElem? (i := 9) rfl)

theorem gw_502 : Cond.code ({ cls := "Collationer", name := "keyNumbered", desc := "(I)LCollationer$Row;" } : Jvm.MethodName) prog_1_method_44_code (2 : Nat) (Option.some (FieldType.object "Collationer$Row")) ∈ mGd := lk_3 (List.mem_of_getElem? (i := 22) rfl) rfl

theorem gw_503 : Cond.methodLink "Collationer" (478 : Nat) ({ cls := "Collationer$Collator", name := "putKey", desc := "(LCollationer$Tailoring;ILCollationer$Row;LCollationer$Row;)V" } : Jvm.MethodName) ∈ mGd := lk_3 (List.mem_of_getElem? (i := 23) rfl) rfl

theorem gw_622 : Cond.methodLink "Collationer" (482 : Nat) ({ cls := "Collationer$Collator", name := "firstWeightIn", desc := "(LCollationer$Row;)I" } : Jvm.MethodName) ∈ mGd := lk_3 (List.mem_of_getElem? (i := 142) rfl) rfl

theorem gw_623 : Cond.static ({ cls := "Collationer$Collator", name := "firstWeightIn", desc := "(LCollationer$Row;)I" } : Jvm.MethodName) ∈ mGd := lk_3 (List.mem_of_getElem? (i := 143) rfl) rfl

theorem gw_624 : Cond.code ({ cls := "Collationer$Collator", name := "firstWeightIn", desc := "(LCollationer$Row;)I" } : Jvm.MethodName) prog_2_method_4_code (1 : Nat) (Option.some FieldType.int) ∈ mGd := lk_3 (List.mem_of_getElem? (i := 144) rfl) rfl

theorem gw_625 : Cond.methodLink "Collationer" (486 : Nat) ({ cls := "Collationer$Index", name := "addFirstWeight", desc := "(I)V" } : Jvm.MethodName) ∈ mGd := lk_3 (List.mem_of_getElem? (i := 145) rfl) rfl

theorem gw_626 : Cond.instanceMethod ({ cls := "Collationer$Index", name := "addFirstWeight", desc := "(I)V" } : Jvm.MethodName) ∈ mGd := lk_3 (List.mem_of_getElem? (i := 146) rfl) rfl

theorem gw_627 : Cond.selects "Collationer$Index" ({ cls := "Collationer$Index", name := "addFirstWeight", desc := "(I)V" } : Jvm.MethodName) ({ cls := "Collationer$Index", name := "addFirstWeight", desc := "(I)V" } : Jvm.MethodName) ∈ mGd := lk_3 (List.mem_of_getElem? (i := 147) rfl) rfl

theorem gw_628 : Cond.code ({ cls := "Collationer$Index", name := "addFirstWeight", desc := "(I)V" } : Jvm.MethodName) prog_8_method_5_code (2 : Nat) (Option.none : Option FieldType) ∈ mGd := lk_3 (List.mem_of_getElem? (i := 148) rfl) rfl

theorem gw_638 : Cond.methodLink "Collationer" (489 : Nat) ({ cls := "Collationer", name := "insertByKey", desc := "(LCollationer$Row;II)V" } : Jvm.MethodName) ∈ mGd := lk_3 (List.mem_of_getElem? (i := 158) rfl) rfl

theorem gw_640 : Cond.instanceMethod ({ cls := "Collationer", name := "insertByKey", desc := "(LCollationer$Row;II)V" } : Jvm.MethodName) ∈ mGd := lk_3 (List.mem_of_getElem? (i := 160) rfl) rfl

theorem gs_191 : Cond.selects "Collationer" ⟨"Collationer", "insertByKey", "(LCollationer$Row;II)V"⟩ ⟨"Collationer", "insertByKey", "(LCollationer$Row;II)V"⟩ ∈ mGd := lp_2 (q := (⟨"Collationer", "insertByKey", "(LCollationer$Row;II)V"⟩, 20)) (List.mem_of_getElem? (i := 2) rfl)

theorem gw_641 : Cond.code ({ cls := "Collationer", name := "insertByKey", desc := "(LCollationer$Row;II)V" } : Jvm.MethodName) prog_1_method_65_code (5 : Nat) (Option.none : Option FieldType) ∈ mGd := lk_3 (List.mem_of_getElem? (i := 161) rfl) rfl

theorem gw_655 : Cond.methodLink "Collationer" (493 : Nat) ({ cls := "Collationer", name := "putSubEntries", desc := "(ILCollationer$Row;)V" } : Jvm.MethodName) ∈ mGd := lk_3 (List.mem_of_getElem? (i := 175) rfl) rfl

theorem gw_657 : Cond.instanceMethod ({ cls := "Collationer", name := "putSubEntries", desc := "(ILCollationer$Row;)V" } : Jvm.MethodName) ∈ mGd := lk_3 (List.mem_of_getElem? (i := 177) rfl) rfl

theorem gs_190 : Cond.selects "Collationer" ⟨"Collationer", "putSubEntries", "(ILCollationer$Row;)V"⟩ ⟨"Collationer", "putSubEntries", "(ILCollationer$Row;)V"⟩ ∈ mGd := lp_2 (q := (⟨"Collationer", "putSubEntries", "(ILCollationer$Row;)V"⟩, 20)) (List.mem_of_getElem? (i := 3) rfl)

theorem gw_658 : Cond.code ({ cls := "Collationer", name := "putSubEntries", desc := "(ILCollationer$Row;)V" } : Jvm.MethodName) prog_1_method_64_code (5 : Nat) (Option.none : Option FieldType) ∈ mGd := lk_3 (List.mem_of_getElem? (i := 178) rfl) rfl

theorem gw_963 : Cond.methodLink "Collationer" (497 : Nat) ({ cls := "Collationer$Index", name := "forget", desc := "()V" } : Jvm.MethodName) ∈ mGd := lk_5 (List.mem_of_getElem? (i := 3) rfl) rfl

theorem gw_964 : Cond.instanceMethod ({ cls := "Collationer$Index", name := "forget", desc := "()V" } : Jvm.MethodName) ∈ mGd := lk_5 (List.mem_of_getElem? (i := 4) rfl) rfl

theorem gw_965 : Cond.selects "Collationer$Index" ({ cls := "Collationer$Index", name := "forget", desc := "()V" } : Jvm.MethodName) ({ cls := "Collationer$Index", name := "forget", desc := "()V" } : Jvm.MethodName) ∈ mGd := lk_5 (List.mem_of_getElem? (i := 5) rfl) rfl

theorem gw_966 : Cond.code ({ cls := "Collationer$Index", name := "forget", desc := "()V" } : Jvm.MethodName) prog_8_method_7_code (1 : Nat) (Option.none : Option FieldType) ∈ mGd := lk_5 (List.mem_of_getElem? (i := 6) rfl) rfl

theorem gw_659 : Cond.methodLink "Collationer" (500 : Nat) ({ cls := "Collationer$Entry", name := "parent", desc := "()I" } : Jvm.MethodName) ∈ mGd := lk_3 (List.mem_of_getElem? (i := 179) rfl) rfl

theorem gw_660 : Cond.instanceMethod ({ cls := "Collationer$Entry", name := "parent", desc := "()I" } : Jvm.MethodName) ∈ mGd := lk_3 (List.mem_of_getElem? (i := 180) rfl) rfl

theorem gw_661 : Cond.selects "Collationer$Entry" ({ cls := "Collationer$Entry", name := "parent", desc := "()I" } : Jvm.MethodName) ({ cls := "Collationer$Entry", name := "parent", desc := "()I" } : Jvm.MethodName) ∈ mGd := lk_3 (List.mem_of_getElem? (i := 181) rfl) rfl

theorem gw_662 : Cond.code ({ cls := "Collationer$Entry", name := "parent", desc := "()I" } : Jvm.MethodName) prog_6_method_4_code (1 : Nat) (Option.some FieldType.int) ∈ mGd := lk_3 (List.mem_of_getElem? (i := 182) rfl) rfl

theorem gw_642 : Cond.methodLink "Collationer" (503 : Nat) ({ cls := "Collationer", name := "compareRows", desc := "(LCollationer$Row;LCollationer$Row;)I" } : Jvm.MethodName) ∈ mGd := lk_3 (List.mem_of_getElem? (i := 162) rfl) rfl

theorem gw_651 : Cond.methodLink "Collationer" (507 : Nat) ({ cls := "Collationer$Row", name := "insert", desc := "(II)V" } : Jvm.MethodName) ∈ mGd := lk_3 (List.mem_of_getElem? (i := 171) rfl) rfl

theorem gw_645 : Cond.methodLink "Collationer" (510 : Nat) ({ cls := "java/lang/Math", name := "min", desc := "(II)I" } : Jvm.MethodName) ∈ mGd := lk_3 (List.mem_of_getElem? (i := 165) rfl) rfl

theorem gw_648 : Cond.methodLink "Collationer" (515 : Nat) ({ cls := "java/lang/Integer", name := "compare", desc := "(II)I" } : Jvm.MethodName) ∈ mGd := lk_3 (List.mem_of_getElem? (i := 168) rfl) rfl

theorem gw_649 : Cond.static ({ cls := "java/lang/Integer", name := "compare", desc := "(II)I" } : Jvm.MethodName) ∈ mGd := lk_3 (List.mem_of_getElem? (i := 169) rfl) rfl

theorem gw_650 : Cond.code ({ cls := "java/lang/Integer", name := "compare", desc := "(II)I" } : Jvm.MethodName) prog_18_method_40_code (2 : Nat) (Option.some FieldType.int) ∈ mGd := lk_3 (List.mem_of_getElem? (i := 170) rfl) rfl

theorem gw_479 : Cond.methodLink "Collationer" (520 : Nat) ({ cls := "Collationer$Entry", name := "formSigns", desc := "()I" } : Jvm.MethodName) ∈ mGd := lk_2 (List.mem_of_getElem? (i := 239) rfl) rfl

theorem gw_480 : Cond.instanceMethod ({ cls := "Collationer$Entry", name := "formSigns", desc := "()I" } : Jvm.MethodName) ∈ mGd := lk_3 (List.mem_of_getElem? (i := 0) rfl) rfl

theorem gw_481 : Cond.selects "Collationer$Entry" ({ cls := "Collationer$Entry", name := "formSigns", desc := "()I" } : Jvm.MethodName) ({ cls := "Collationer$Entry", name := "formSigns", desc := "()I" } : Jvm.MethodName) ∈ mGd := lk_3 (List.mem_of_getElem? (i := 1) rfl) rfl

theorem gw_482 : Cond.code ({ cls := "Collationer$Entry", name := "formSigns", desc := "()I" } : Jvm.MethodName) prog_6_method_9_code (1 : Nat) (Option.some FieldType.int) ∈ mGd := lk_3 (List.mem_of_getElem? (i := 2) rfl) rfl

theorem gw_483 : Cond.methodLink "Collationer" (523 : Nat) ({ cls := "Collationer$Row", name := "append", desc := "(LCollationer$Row;II)V" } : Jvm.MethodName) ∈ mGd := lk_3 (List.mem_of_getElem? (i := 3) rfl) rfl

theorem gw_490 : Cond.methodLink "Collationer" (526 : Nat) ({ cls := "Collationer$Entry", name := "isTurned", desc := "()Z" } : Jvm.MethodName) ∈ mGd := lk_3 (List.mem_of_getElem? (i := 10) rfl) rfl

theorem gw_491 : Cond.instanceMethod ({ cls := "Collationer$Entry", name := "isTurned", desc := "()Z" } : Jvm.MethodName) ∈ mGd := lk_3 (List.mem_of_getElem? (i := 11) rfl) rfl

theorem gw_492 : Cond.selects "Collationer$Entry" ({ cls := "Collationer$Entry", name := "isTurned", desc := "()Z" } : Jvm.MethodName) ({ cls := "Collationer$Entry", name := "isTurned", desc := "()Z" } : Jvm.MethodName) ∈ mGd := lk_3 (List.mem_of_getElem? (i := 12) rfl) rfl

theorem gw_493 : Cond.code ({ cls := "Collationer$Entry", name := "isTurned", desc := "()Z" } : Jvm.MethodName) prog_6_method_10_code (1 : Nat) (Option.some FieldType.boolean) ∈ mGd := lk_3 (List.mem_of_getElem? (i := 13) rfl) rfl

theorem gw_1103 : Cond.methodLink "Collationer" (529 : Nat) ({ cls := "Collationer$Index", name := "firstWeightOf", desc := "(I)I" } : Jvm.MethodName) ∈ mGd := lk_5 (List.mem_of_getElem? (i := 143) rfl) rfl

theorem gw_1104 : Cond.instanceMethod ({ cls := "Collationer$Index", name := "firstWeightOf", desc := "(I)I" } : Jvm.MethodName) ∈ mGd := lk_5 (List.mem_of_getElem? (i := 144) rfl) rfl

theorem gw_1105 : Cond.selects "Collationer$Index" ({ cls := "Collationer$Index", name := "firstWeightOf", desc := "(I)I" } : Jvm.MethodName) ({ cls := "Collationer$Index", name := "firstWeightOf", desc := "(I)I" } : Jvm.MethodName) ∈ mGd := lk_5 (List.mem_of_getElem? (i := 145) rfl) rfl

theorem gw_1106 : Cond.code ({ cls := "Collationer$Index", name := "firstWeightOf", desc := "(I)I" } : Jvm.MethodName) prog_8_method_6_code (2 : Nat) (Option.some FieldType.int) ∈ mGd := lk_5 (List.mem_of_getElem? (i := 146) rfl) rfl

theorem gw_1108 : Cond.methodLink "Collationer" (532 : Nat) ({ cls := "Collationer", name := "headingFor", desc := "(LCollationer$Tailoring;I)I" } : Jvm.MethodName) ∈ mGd := lk_5 (List.mem_of_getElem? (i := 148) rfl) rfl

theorem gw_1110 : Cond.instanceMethod ({ cls := "Collationer", name := "headingFor", desc := "(LCollationer$Tailoring;I)I" } : Jvm.MethodName) ∈ mGd := lk_5 (List.mem_of_getElem? (i := 150) rfl) rfl

theorem gs_195 : Cond.selects "Collationer" ⟨"Collationer", "headingFor", "(LCollationer$Tailoring;I)I"⟩ ⟨"Collationer", "headingFor", "(LCollationer$Tailoring;I)I"⟩ ∈ mGd := lp_3 (q := (⟨"Collationer", "headingFor", "(LCollationer$Tailoring;I)I"⟩, 20)) (List.mem_of_getElem? (i := 11) rfl)

theorem gw_1111 : Cond.code ({ cls := "Collationer", name := "headingFor", desc := "(LCollationer$Tailoring;I)I" } : Jvm.MethodName) prog_1_method_69_code (7 : Nat) (Option.some FieldType.int) ∈ mGd := lk_5 (List.mem_of_getElem? (i := 151) rfl) rfl

theorem gw_1114 : Cond.methodLink "Collationer" (536 : Nat) ({ cls := "Collationer", name := "firstLetter", desc := "(LCollationer$Row;)I" } : Jvm.MethodName) ∈ mGd := lk_5 (List.mem_of_getElem? (i := 154) rfl) rfl

theorem gw_1115 : Cond.static ({ cls := "Collationer", name := "firstLetter", desc := "(LCollationer$Row;)I" } : Jvm.MethodName) ∈ mGd := lk_5 (List.mem_of_getElem? (i := 155) rfl) rfl

theorem gw_1116 : Cond.code ({ cls := "Collationer", name := "firstLetter", desc := "(LCollationer$Row;)I" } : Jvm.MethodName) prog_1_method_70_code (2 : Nat) (Option.some FieldType.int) ∈ mGd := lk_5 (List.mem_of_getElem? (i := 156) rfl) rfl

theorem gw_1118 : Cond.methodLink "Collationer" (539 : Nat) ({ cls := "Collationer", name := "scriptOf", desc := "(I)I" } : Jvm.MethodName) ∈ mGd := lk_5 (List.mem_of_getElem? (i := 158) rfl) rfl

theorem gw_1119 : Cond.static ({ cls := "Collationer", name := "scriptOf", desc := "(I)I" } : Jvm.MethodName) ∈ mGd := lk_5 (List.mem_of_getElem? (i := 159) rfl) rfl

theorem gw_1120 : Cond.code ({ cls := "Collationer", name := "scriptOf", desc := "(I)I" } : Jvm.MethodName) prog_1_method_57_code (1 : Nat) (Option.some FieldType.int) ∈ mGd := lk_5 (List.mem_of_getElem? (i := 160) rfl) rfl

theorem gw_1112 : Cond.methodLink "Collationer" (542 : Nat) ({ cls := "Collationer", name := "codeOfSign", desc := "(I)I" } : Jvm.MethodName) ∈ mGd := lk_5 (List.mem_of_getElem? (i := 152) rfl) rfl

theorem gw_1113 : Cond.methodLink "Collationer" (545 : Nat) ({ cls := "Collationer$Tailoring", name := "firstWeightOf", desc := "(I)I" } : Jvm.MethodName) ∈ mGd := lk_5 (List.mem_of_getElem? (i := 153) rfl) rfl

theorem gw_1117 : Cond.methodLink "Collationer" (546 : Nat) ({ cls := "Collationer", name := "isLetter", desc := "(I)Z" } : Jvm.MethodName) ∈ mGd := lk_5 (List.mem_of_getElem? (i := 157) rfl) rfl

theorem gw_771 : Cond.methodLink "Collationer" (549 : Nat) ({ cls := "Collationer", name := "isLocated", desc := "(I)Z" } : Jvm.MethodName) ∈ mGd := lk_4 (List.mem_of_getElem? (i := 51) rfl) rfl

theorem gw_773 : Cond.instanceMethod ({ cls := "Collationer", name := "isLocated", desc := "(I)Z" } : Jvm.MethodName) ∈ mGd := lk_4 (List.mem_of_getElem? (i := 53) rfl) rfl

theorem gs_198 : Cond.selects "Collationer" ⟨"Collationer", "isLocated", "(I)Z"⟩ ⟨"Collationer", "isLocated", "(I)Z"⟩ ∈ mGd := lp_2 (q := (⟨"Collationer", "isLocated", "(I)Z"⟩, 20)) (List.mem_of_getElem? (i := 7) rfl)

theorem gw_774 : Cond.code ({ cls := "Collationer", name := "isLocated", desc := "(I)Z" } : Jvm.MethodName) prog_1_method_72_code (4 : Nat) (Option.some FieldType.boolean) ∈ mGd := lk_4 (List.mem_of_getElem? (i := 54) rfl) rfl

theorem gw_1121 : Cond.methodLink "Collationer" (552 : Nat) ({ cls := "Collationer", name := "linesOf", desc := "(LCollationer$Entry;)I" } : Jvm.MethodName) ∈ mGd := lk_5 (List.mem_of_getElem? (i := 161) rfl) rfl

theorem gw_1123 : Cond.instanceMethod ({ cls := "Collationer", name := "linesOf", desc := "(LCollationer$Entry;)I" } : Jvm.MethodName) ∈ mGd := lk_5 (List.mem_of_getElem? (i := 163) rfl) rfl

theorem gs_202 : Cond.selects "Collationer" ⟨"Collationer", "linesOf", "(LCollationer$Entry;)I"⟩ ⟨"Collationer", "linesOf", "(LCollationer$Entry;)I"⟩ ∈ mGd := lp_3 (q := (⟨"Collationer", "linesOf", "(LCollationer$Entry;)I"⟩, 20)) (List.mem_of_getElem? (i := 12) rfl)

theorem gw_1124 : Cond.code ({ cls := "Collationer", name := "linesOf", desc := "(LCollationer$Entry;)I" } : Jvm.MethodName) prog_1_method_76_code (3 : Nat) (Option.some FieldType.int) ∈ mGd := lk_5 (List.mem_of_getElem? (i := 164) rfl) rfl

theorem gw_1170 : Cond.methodLink "Collationer" (556 : Nat) ({ cls := "Collationer", name := "needsNewColumn", desc := "(IIZZ)Z" } : Jvm.MethodName) ∈ mGd := lk_5 (List.mem_of_getElem? (i := 210) rfl) rfl

theorem gw_1172 : Cond.instanceMethod ({ cls := "Collationer", name := "needsNewColumn", desc := "(IIZZ)Z" } : Jvm.MethodName) ∈ mGd := lk_5 (List.mem_of_getElem? (i := 212) rfl) rfl

theorem gs_201 : Cond.selects "Collationer" ⟨"Collationer", "needsNewColumn", "(IIZZ)Z"⟩ ⟨"Collationer", "needsNewColumn", "(IIZZ)Z"⟩ ∈ mGd := lp_3 (q := (⟨"Collationer", "needsNewColumn", "(IIZZ)Z"⟩, 20)) (List.mem_of_getElem? (i := 15) rfl)

theorem gw_1173 : Cond.code ({ cls := "Collationer", name := "needsNewColumn", desc := "(IIZZ)Z" } : Jvm.MethodName) prog_1_method_75_code (7 : Nat) (Option.some FieldType.boolean) ∈ mGd := lk_5 (List.mem_of_getElem? (i := 213) rfl) rfl

theorem gw_1169 : Cond.methodLink "Collationer" (560 : Nat) ({ cls := "java/lang/Math", name := "max", desc := "(II)I" } : Jvm.MethodName) ∈ mGd := lk_5 (List.mem_of_getElem? (i := 209) rfl) rfl

theorem gw_1155 : Cond.methodLink "Collationer" (563 : Nat) ({ cls := "Collationer$Groups", name := "count", desc := "()I" } : Jvm.MethodName) ∈ mGd := lk_5 (List.mem_of_getElem? (i := 195) rfl) rfl

theorem gw_1156 : Cond.instanceMethod ({ cls := "Collationer$Groups", name := "count", desc := "()I" } : Jvm.MethodName) ∈ mGd := lk_5 (List.mem_of_getElem? (i := 196) rfl) rfl

theorem gw_1157 : Cond.selects "Collationer$Groups" ({ cls := "Collationer$Groups", name := "count", desc := "()I" } : Jvm.MethodName) ({ cls := "Collationer$Groups", name := "count", desc := "()I" } : Jvm.MethodName) ∈ mGd := lk_5 (List.mem_of_getElem? (i := 197) rfl) rfl

theorem gw_1158 : Cond.code ({ cls := "Collationer$Groups", name := "count", desc := "()I" } : Jvm.MethodName) prog_7_method_2_code (1 : Nat) (Option.some FieldType.int) ∈ mGd := lk_5 (List.mem_of_getElem? (i := 198) rfl) rfl

theorem gw_1159 : Cond.methodLink "Collationer" (564 : Nat) ({ cls := "Collationer$Entry", name := "alsoCount", desc := "()I" } : Jvm.MethodName) ∈ mGd := lk_5 (List.mem_of_getElem? (i := 199) rfl) rfl

theorem gw_1160 : Cond.instanceMethod ({ cls := "Collationer$Entry", name := "alsoCount", desc := "()I" } : Jvm.MethodName) ∈ mGd := lk_5 (List.mem_of_getElem? (i := 200) rfl) rfl

theorem gw_1161 : Cond.selects "Collationer$Entry" ({ cls := "Collationer$Entry", name := "alsoCount", desc := "()I" } : Jvm.MethodName) ({ cls := "Collationer$Entry", name := "alsoCount", desc := "()I" } : Jvm.MethodName) ∈ mGd := lk_5 (List.mem_of_getElem? (i := 201) rfl) rfl

theorem gw_1162 : Cond.code ({ cls := "Collationer$Entry", name := "alsoCount", desc := "()I" } : Jvm.MethodName) prog_6_method_22_code (1 : Nat) (Option.some FieldType.int) ∈ mGd := lk_5 (List.mem_of_getElem? (i := 202) rfl) rfl

theorem gw_1049 : Cond.methodLink "Collationer" (567 : Nat) ({ cls := "Collationer$Corpus", name := "isOf", desc := "(II)Z" } : Jvm.MethodName) ∈ mGd := lk_5 (List.mem_of_getElem? (i := 89) rfl) rfl

theorem gw_1050 : Cond.methodLink "Collationer" (570 : Nat) ({ cls := "Collationer", name := "insertByNeighbours", desc := "(II)V" } : Jvm.MethodName) ∈ mGd := lk_5 (List.mem_of_getElem? (i := 90) rfl) rfl

theorem gw_1052 : Cond.instanceMethod ({ cls := "Collationer", name := "insertByNeighbours", desc := "(II)V" } : Jvm.MethodName) ∈ mGd := lk_5 (List.mem_of_getElem? (i := 92) rfl) rfl

theorem gs_204 : Cond.selects "Collationer" ⟨"Collationer", "insertByNeighbours", "(II)V"⟩ ⟨"Collationer", "insertByNeighbours", "(II)V"⟩ ∈ mGd := lp_3 (q := (⟨"Collationer", "insertByNeighbours", "(II)V"⟩, 20)) (List.mem_of_getElem? (i := 5) rfl)

theorem gw_1053 : Cond.code ({ cls := "Collationer", name := "insertByNeighbours", desc := "(II)V" } : Jvm.MethodName) prog_1_method_78_code (4 : Nat) (Option.none : Option FieldType) ∈ mGd := lk_5 (List.mem_of_getElem? (i := 93) rfl) rfl

theorem gw_1054 : Cond.methodLink "Collationer" (573 : Nat) ({ cls := "Collationer", name := "compareNeighbours", desc := "(III)I" } : Jvm.MethodName) ∈ mGd := lk_5 (List.mem_of_getElem? (i := 94) rfl) rfl

theorem gw_1056 : Cond.instanceMethod ({ cls := "Collationer", name := "compareNeighbours", desc := "(III)I" } : Jvm.MethodName) ∈ mGd := lk_5 (List.mem_of_getElem? (i := 96) rfl) rfl

theorem gs_205 : Cond.selects "Collationer" ⟨"Collationer", "compareNeighbours", "(III)I"⟩ ⟨"Collationer", "compareNeighbours", "(III)I"⟩ ∈ mGd := lp_3 (q := (⟨"Collationer", "compareNeighbours", "(III)I"⟩, 20)) (List.mem_of_getElem? (i := 6) rfl)

theorem gw_1057 : Cond.code ({ cls := "Collationer", name := "compareNeighbours", desc := "(III)I" } : Jvm.MethodName) prog_1_method_79_code (5 : Nat) (Option.some FieldType.int) ∈ mGd := lk_5 (List.mem_of_getElem? (i := 97) rfl) rfl

theorem gw_1058 : Cond.methodLink "Collationer" (577 : Nat) ({ cls := "Collationer", name := "compareWords", desc := "(II)I" } : Jvm.MethodName) ∈ mGd := lk_5 (List.mem_of_getElem? (i := 98) rfl) rfl

theorem gw_1060 : Cond.instanceMethod ({ cls := "Collationer", name := "compareWords", desc := "(II)I" } : Jvm.MethodName) ∈ mGd := lk_5 (List.mem_of_getElem? (i := 100) rfl) rfl

theorem gs_206 : Cond.selects "Collationer" ⟨"Collationer", "compareWords", "(II)I"⟩ ⟨"Collationer", "compareWords", "(II)I"⟩ ∈ mGd := lp_3 (q := (⟨"Collationer", "compareWords", "(II)I"⟩, 20)) (List.mem_of_getElem? (i := 7) rfl)

theorem gw_1061 : Cond.code ({ cls := "Collationer", name := "compareWords", desc := "(II)I" } : Jvm.MethodName) prog_1_method_80_code (3 : Nat) (Option.some FieldType.int) ∈ mGd := lk_5 (List.mem_of_getElem? (i := 101) rfl) rfl

theorem gw_1062 : Cond.methodLink "Collationer" (318 : Nat) ({ cls := "Collationer$Corpus", name := "hasWord", desc := "(I)Z" } : Jvm.MethodName) ∈ mGd := lk_5 (List.mem_of_getElem? (i := 102) rfl) rfl

theorem gw_1063 : Cond.instanceMethod ({ cls := "Collationer$Corpus", name := "hasWord", desc := "(I)Z" } : Jvm.MethodName) ∈ mGd := lk_5 (List.mem_of_getElem? (i := 103) rfl) rfl

theorem gw_1064 : Cond.selects "Collationer$Corpus" ({ cls := "Collationer$Corpus", name := "hasWord", desc := "(I)Z" } : Jvm.MethodName) ({ cls := "Collationer$Corpus", name := "hasWord", desc := "(I)Z" } : Jvm.MethodName) ∈ mGd := lk_5 (List.mem_of_getElem? (i := 104) rfl) rfl

theorem gw_1065 : Cond.code ({ cls := "Collationer$Corpus", name := "hasWord", desc := "(I)Z" } : Jvm.MethodName) prog_4_method_3_code (2 : Nat) (Option.some FieldType.boolean) ∈ mGd := lk_5 (List.mem_of_getElem? (i := 105) rfl) rfl

theorem gw_1066 : Cond.methodLink "Collationer" (323 : Nat) ({ cls := "Collationer$Corpus", name := "textOf", desc := "(I)I" } : Jvm.MethodName) ∈ mGd := lk_5 (List.mem_of_getElem? (i := 106) rfl) rfl

theorem gw_1166 : Cond.constant "java/lang/Integer" (265 : Nat) (1431655765 : Int32) ∈ mGd := lk_5 (List.mem_of_getElem? (i := 206) rfl) rfl

theorem gw_1167 : Cond.constant "java/lang/Integer" (266 : Nat) (858993459 : Int32) ∈ mGd := lk_5 (List.mem_of_getElem? (i := 207) rfl) rfl

theorem gw_1168 : Cond.constant "java/lang/Integer" (267 : Nat) (252645135 : Int32) ∈ mGd := lk_5 (List.mem_of_getElem? (i := 208) rfl) rfl

theorem gw_817 : Cond.methodLink "CollationerLaw" (7 : Nat) ({ cls := "Collationer", name := "sign", desc := "(I)I" } : Jvm.MethodName) ∈ mGd := lk_4 (List.mem_of_getElem? (i := 97) rfl) rfl

theorem gw_818 : Cond.instanceMethod ({ cls := "Collationer", name := "sign", desc := "(I)I" } : Jvm.MethodName) ∈ mGd := lk_4 (List.mem_of_getElem? (i := 98) rfl) rfl

theorem gw_819 : Cond.selects "Collationer" ({ cls := "Collationer", name := "sign", desc := "(I)I" } : Jvm.MethodName) ({ cls := "Collationer", name := "sign", desc := "(I)I" } : Jvm.MethodName) ∈ mGd := lk_4 (List.mem_of_getElem? (i := 99) rfl) rfl

theorem gw_820 : Cond.code ({ cls := "Collationer", name := "sign", desc := "(I)I" } : Jvm.MethodName) prog_1_method_2_code (2 : Nat) (Option.some FieldType.int) ∈ mGd := lk_4 (List.mem_of_getElem? (i := 100) rfl) rfl

theorem gw_835 : Cond.methodLink "CollationerLaw" (13 : Nat) ({ cls := "Collationer", name := "compose", desc := "(III)I" } : Jvm.MethodName) ∈ mGd := lk_4 (List.mem_of_getElem? (i := 115) rfl) rfl

theorem gw_836 : Cond.instanceMethod ({ cls := "Collationer", name := "compose", desc := "(III)I" } : Jvm.MethodName) ∈ mGd := lk_4 (List.mem_of_getElem? (i := 116) rfl) rfl

theorem gw_837 : Cond.selects "Collationer" ({ cls := "Collationer", name := "compose", desc := "(III)I" } : Jvm.MethodName) ({ cls := "Collationer", name := "compose", desc := "(III)I" } : Jvm.MethodName) ∈ mGd := lk_4 (List.mem_of_getElem? (i := 117) rfl) rfl

theorem gw_838 : Cond.code ({ cls := "Collationer", name := "compose", desc := "(III)I" } : Jvm.MethodName) prog_1_method_3_code (4 : Nat) (Option.some FieldType.int) ∈ mGd := lk_4 (List.mem_of_getElem? (i := 118) rfl) rfl

theorem gw_860 : Cond.methodLink "CollationerLaw" (17 : Nat) ({ cls := "Collationer", name := "anchor", desc := "()I" } : Jvm.MethodName) ∈ mGd := lk_4 (List.mem_of_getElem? (i := 140) rfl) rfl

theorem gw_861 : Cond.instanceMethod ({ cls := "Collationer", name := "anchor", desc := "()I" } : Jvm.MethodName) ∈ mGd := lk_4 (List.mem_of_getElem? (i := 141) rfl) rfl

theorem gw_862 : Cond.selects "Collationer" ({ cls := "Collationer", name := "anchor", desc := "()I" } : Jvm.MethodName) ({ cls := "Collationer", name := "anchor", desc := "()I" } : Jvm.MethodName) ∈ mGd := lk_4 (List.mem_of_getElem? (i := 142) rfl) rfl

theorem gw_863 : Cond.code ({ cls := "Collationer", name := "anchor", desc := "()I" } : Jvm.MethodName) prog_1_method_6_code (1 : Nat) (Option.some FieldType.int) ∈ mGd := lk_4 (List.mem_of_getElem? (i := 143) rfl) rfl

theorem gw_888 : Cond.methodLink "CollationerLaw" (21 : Nat) ({ cls := "Collationer", name := "rule", desc := "(II)I" } : Jvm.MethodName) ∈ mGd := lk_4 (List.mem_of_getElem? (i := 168) rfl) rfl

theorem gw_889 : Cond.instanceMethod ({ cls := "Collationer", name := "rule", desc := "(II)I" } : Jvm.MethodName) ∈ mGd := lk_4 (List.mem_of_getElem? (i := 169) rfl) rfl

theorem gw_890 : Cond.selects "Collationer" ({ cls := "Collationer", name := "rule", desc := "(II)I" } : Jvm.MethodName) ({ cls := "Collationer", name := "rule", desc := "(II)I" } : Jvm.MethodName) ∈ mGd := lk_4 (List.mem_of_getElem? (i := 170) rfl) rfl

theorem gw_891 : Cond.code ({ cls := "Collationer", name := "rule", desc := "(II)I" } : Jvm.MethodName) prog_1_method_7_code (6 : Nat) (Option.some FieldType.int) ∈ mGd := lk_4 (List.mem_of_getElem? (i := 171) rfl) rfl

theorem gw_944 : Cond.methodLink "CollationerLaw" (25 : Nat) ({ cls := "Collationer", name := "entry", desc := "(III)I" } : Jvm.MethodName) ∈ mGd := lk_4 (List.mem_of_getElem? (i := 224) rfl) rfl

theorem gw_945 : Cond.instanceMethod ({ cls := "Collationer", name := "entry", desc := "(III)I" } : Jvm.MethodName) ∈ mGd := lk_4 (List.mem_of_getElem? (i := 225) rfl) rfl

theorem gw_946 : Cond.selects "Collationer" ({ cls := "Collationer", name := "entry", desc := "(III)I" } : Jvm.MethodName) ({ cls := "Collationer", name := "entry", desc := "(III)I" } : Jvm.MethodName) ∈ mGd := lk_4 (List.mem_of_getElem? (i := 226) rfl) rfl

theorem gw_947 : Cond.code ({ cls := "Collationer", name := "entry", desc := "(III)I" } : Jvm.MethodName) prog_1_method_11_code (5 : Nat) (Option.some FieldType.int) ∈ mGd := lk_4 (List.mem_of_getElem? (i := 227) rfl) rfl

theorem gw_967 : Cond.methodLink "CollationerLaw" (28 : Nat) ({ cls := "Collationer", name := "form", desc := "(III)I" } : Jvm.MethodName) ∈ mGd := lk_5 (List.mem_of_getElem? (i := 7) rfl) rfl

theorem gw_968 : Cond.instanceMethod ({ cls := "Collationer", name := "form", desc := "(III)I" } : Jvm.MethodName) ∈ mGd := lk_5 (List.mem_of_getElem? (i := 8) rfl) rfl

theorem gw_969 : Cond.selects "Collationer" ({ cls := "Collationer", name := "form", desc := "(III)I" } : Jvm.MethodName) ({ cls := "Collationer", name := "form", desc := "(III)I" } : Jvm.MethodName) ∈ mGd := lk_5 (List.mem_of_getElem? (i := 9) rfl) rfl

theorem gw_970 : Cond.code ({ cls := "Collationer", name := "form", desc := "(III)I" } : Jvm.MethodName) prog_1_method_12_code (7 : Nat) (Option.some FieldType.int) ∈ mGd := lk_5 (List.mem_of_getElem? (i := 10) rfl) rfl

theorem gw_980 : Cond.methodLink "CollationerLaw" (31 : Nat) ({ cls := "Collationer", name := "locate", desc := "(III)Z" } : Jvm.MethodName) ∈ mGd := lk_5 (List.mem_of_getElem? (i := 20) rfl) rfl

theorem gw_981 : Cond.instanceMethod ({ cls := "Collationer", name := "locate", desc := "(III)Z" } : Jvm.MethodName) ∈ mGd := lk_5 (List.mem_of_getElem? (i := 21) rfl) rfl

theorem gw_982 : Cond.selects "Collationer" ({ cls := "Collationer", name := "locate", desc := "(III)Z" } : Jvm.MethodName) ({ cls := "Collationer", name := "locate", desc := "(III)Z" } : Jvm.MethodName) ∈ mGd := lk_5 (List.mem_of_getElem? (i := 22) rfl) rfl

theorem gw_983 : Cond.code ({ cls := "Collationer", name := "locate", desc := "(III)Z" } : Jvm.MethodName) prog_1_method_13_code (5 : Nat) (Option.some FieldType.boolean) ∈ mGd := lk_5 (List.mem_of_getElem? (i := 23) rfl) rfl

theorem gw_1007 : Cond.methodLink "CollationerLaw" (35 : Nat) ({ cls := "Collationer", name := "see", desc := "(IIZ)Z" } : Jvm.MethodName) ∈ mGd := lk_5 (List.mem_of_getElem? (i := 47) rfl) rfl

theorem gw_1008 : Cond.instanceMethod ({ cls := "Collationer", name := "see", desc := "(IIZ)Z" } : Jvm.MethodName) ∈ mGd := lk_5 (List.mem_of_getElem? (i := 48) rfl) rfl

theorem gw_1009 : Cond.selects "Collationer" ({ cls := "Collationer", name := "see", desc := "(IIZ)Z" } : Jvm.MethodName) ({ cls := "Collationer", name := "see", desc := "(IIZ)Z" } : Jvm.MethodName) ∈ mGd := lk_5 (List.mem_of_getElem? (i := 49) rfl) rfl

theorem gw_1010 : Cond.code ({ cls := "Collationer", name := "see", desc := "(IIZ)Z" } : Jvm.MethodName) prog_1_method_14_code (6 : Nat) (Option.some FieldType.boolean) ∈ mGd := lk_5 (List.mem_of_getElem? (i := 50) rfl) rfl

theorem gw_1017 : Cond.methodLink "CollationerLaw" (39 : Nat) ({ cls := "Collationer", name := "lineAt", desc := "(IZI)I" } : Jvm.MethodName) ∈ mGd := lk_5 (List.mem_of_getElem? (i := 57) rfl) rfl

theorem gw_1018 : Cond.instanceMethod ({ cls := "Collationer", name := "lineAt", desc := "(IZI)I" } : Jvm.MethodName) ∈ mGd := lk_5 (List.mem_of_getElem? (i := 58) rfl) rfl

theorem gw_1019 : Cond.selects "Collationer" ({ cls := "Collationer", name := "lineAt", desc := "(IZI)I" } : Jvm.MethodName) ({ cls := "Collationer", name := "lineAt", desc := "(IZI)I" } : Jvm.MethodName) ∈ mGd := lk_5 (List.mem_of_getElem? (i := 59) rfl) rfl

theorem gw_1020 : Cond.code ({ cls := "Collationer", name := "lineAt", desc := "(IZI)I" } : Jvm.MethodName) prog_1_method_38_code (4 : Nat) (Option.some FieldType.int) ∈ mGd := lk_5 (List.mem_of_getElem? (i := 60) rfl) rfl

theorem gw_1067 : Cond.methodLink "CollationerLaw" (43 : Nat) ({ cls := "Collationer", name := "entryAt", desc := "(II)I" } : Jvm.MethodName) ∈ mGd := lk_5 (List.mem_of_getElem? (i := 107) rfl) rfl

theorem gw_1068 : Cond.instanceMethod ({ cls := "Collationer", name := "entryAt", desc := "(II)I" } : Jvm.MethodName) ∈ mGd := lk_5 (List.mem_of_getElem? (i := 108) rfl) rfl

theorem gw_1069 : Cond.selects "Collationer" ({ cls := "Collationer", name := "entryAt", desc := "(II)I" } : Jvm.MethodName) ({ cls := "Collationer", name := "entryAt", desc := "(II)I" } : Jvm.MethodName) ∈ mGd := lk_5 (List.mem_of_getElem? (i := 109) rfl) rfl

theorem gw_1070 : Cond.code ({ cls := "Collationer", name := "entryAt", desc := "(II)I" } : Jvm.MethodName) prog_1_method_31_code (3 : Nat) (Option.some FieldType.int) ∈ mGd := lk_5 (List.mem_of_getElem? (i := 110) rfl) rfl

theorem gw_1072 : Cond.methodLink "CollationerLaw" (46 : Nat) ({ cls := "Collationer", name := "itemAt", desc := "(II)I" } : Jvm.MethodName) ∈ mGd := lk_5 (List.mem_of_getElem? (i := 112) rfl) rfl

theorem gw_1073 : Cond.instanceMethod ({ cls := "Collationer", name := "itemAt", desc := "(II)I" } : Jvm.MethodName) ∈ mGd := lk_5 (List.mem_of_getElem? (i := 113) rfl) rfl

theorem gw_1074 : Cond.selects "Collationer" ({ cls := "Collationer", name := "itemAt", desc := "(II)I" } : Jvm.MethodName) ({ cls := "Collationer", name := "itemAt", desc := "(II)I" } : Jvm.MethodName) ∈ mGd := lk_5 (List.mem_of_getElem? (i := 114) rfl) rfl

theorem gw_1075 : Cond.code ({ cls := "Collationer", name := "itemAt", desc := "(II)I" } : Jvm.MethodName) prog_1_method_24_code (3 : Nat) (Option.some FieldType.int) ∈ mGd := lk_5 (List.mem_of_getElem? (i := 115) rfl) rfl

theorem gw_1086 : Cond.methodLink "CollationerLaw" (49 : Nat) ({ cls := "Collationer", name := "columnOf", desc := "(II)I" } : Jvm.MethodName) ∈ mGd := lk_5 (List.mem_of_getElem? (i := 126) rfl) rfl

theorem gw_1087 : Cond.instanceMethod ({ cls := "Collationer", name := "columnOf", desc := "(II)I" } : Jvm.MethodName) ∈ mGd := lk_5 (List.mem_of_getElem? (i := 127) rfl) rfl

theorem gw_1088 : Cond.selects "Collationer" ({ cls := "Collationer", name := "columnOf", desc := "(II)I" } : Jvm.MethodName) ({ cls := "Collationer", name := "columnOf", desc := "(II)I" } : Jvm.MethodName) ∈ mGd := lk_5 (List.mem_of_getElem? (i := 128) rfl) rfl

theorem gw_1089 : Cond.code ({ cls := "Collationer", name := "columnOf", desc := "(II)I" } : Jvm.MethodName) prog_1_method_37_code (3 : Nat) (Option.some FieldType.int) ∈ mGd := lk_5 (List.mem_of_getElem? (i := 129) rfl) rfl

theorem gw_1174 : Cond.methodLink "CollationerLaw" (52 : Nat) ({ cls := "Collationer", name := "text", desc := "()I" } : Jvm.MethodName) ∈ mGd := lk_5 (List.mem_of_getElem? (i := 214) rfl) rfl

theorem gw_1175 : Cond.instanceMethod ({ cls := "Collationer", name := "text", desc := "()I" } : Jvm.MethodName) ∈ mGd := lk_5 (List.mem_of_getElem? (i := 215) rfl) rfl

theorem gw_1176 : Cond.selects "Collationer" ({ cls := "Collationer", name := "text", desc := "()I" } : Jvm.MethodName) ({ cls := "Collationer", name := "text", desc := "()I" } : Jvm.MethodName) ∈ mGd := lk_5 (List.mem_of_getElem? (i := 216) rfl) rfl

theorem gw_1177 : Cond.code ({ cls := "Collationer", name := "text", desc := "()I" } : Jvm.MethodName) prog_1_method_4_code (1 : Nat) (Option.some FieldType.int) ∈ mGd := lk_5 (List.mem_of_getElem? (i := 217) rfl) rfl

theorem gw_814 : Cond.methodLink "CollationerLaw" (55 : Nat) ({ cls := "CollationerLaw", name := "asks", desc := "(LCollationer;IIII)I" } : Jvm.MethodName) ∈ mGd := lk_4 (List.mem_of_getElem? (i := 94) rfl) rfl

theorem gw_815 : Cond.static ({ cls := "CollationerLaw", name := "asks", desc := "(LCollationer;IIII)I" } : Jvm.MethodName) ∈ mGd := lk_4 (List.mem_of_getElem? (i := 95) rfl) rfl

theorem gw_816 : Cond.code ({ cls := "CollationerLaw", name := "asks", desc := "(LCollationer;IIII)I" } : Jvm.MethodName) method_2_code (5 : Nat) (Option.some FieldType.int) ∈ mGd := lk_4 (List.mem_of_getElem? (i := 96) rfl) rfl

theorem gw_0 : Cond.initialized "CollationerLaw" ∈ mGd := lk_1 (List.mem_of_getElem? (i := 0) rfl) rfl

theorem gw_1182 : Cond.methodLink "CollationerLaw" (67 : Nat) ({ cls := "Collationer", name := "signAt", desc := "(IZI)I" } : Jvm.MethodName) ∈ mGd := lk_5 (List.mem_of_getElem? (i := 222) rfl) rfl

theorem gw_1183 : Cond.instanceMethod ({ cls := "Collationer", name := "signAt", desc := "(IZI)I" } : Jvm.MethodName) ∈ mGd := lk_5 (List.mem_of_getElem? (i := 223) rfl) rfl

theorem gw_1184 : Cond.selects "Collationer" ({ cls := "Collationer", name := "signAt", desc := "(IZI)I" } : Jvm.MethodName) ({ cls := "Collationer", name := "signAt", desc := "(IZI)I" } : Jvm.MethodName) ∈ mGd := lk_5 (List.mem_of_getElem? (i := 224) rfl) rfl

theorem gw_1185 : Cond.code ({ cls := "Collationer", name := "signAt", desc := "(IZI)I" } : Jvm.MethodName) prog_1_method_22_code (4 : Nat) (Option.some FieldType.int) ∈ mGd := lk_5 (List.mem_of_getElem? (i := 225) rfl) rfl

theorem gw_1190 : Cond.methodLink "CollationerLaw" (70 : Nat) ({ cls := "Collationer", name := "compare", desc := "(IIII)I" } : Jvm.MethodName) ∈ mGd := lk_5 (List.mem_of_getElem? (i := 230) rfl) rfl

theorem gw_1191 : Cond.instanceMethod ({ cls := "Collationer", name := "compare", desc := "(IIII)I" } : Jvm.MethodName) ∈ mGd := lk_5 (List.mem_of_getElem? (i := 231) rfl) rfl

theorem gw_1192 : Cond.selects "Collationer" ({ cls := "Collationer", name := "compare", desc := "(IIII)I" } : Jvm.MethodName) ({ cls := "Collationer", name := "compare", desc := "(IIII)I" } : Jvm.MethodName) ∈ mGd := lk_5 (List.mem_of_getElem? (i := 232) rfl) rfl

theorem gw_1193 : Cond.code ({ cls := "Collationer", name := "compare", desc := "(IIII)I" } : Jvm.MethodName) prog_1_method_27_code (5 : Nat) (Option.some FieldType.int) ∈ mGd := lk_5 (List.mem_of_getElem? (i := 233) rfl) rfl

theorem gw_1205 : Cond.methodLink "CollationerLaw" (74 : Nat) ({ cls := "Collationer", name := "compareByLevels", desc := "(IIII)I" } : Jvm.MethodName) ∈ mGd := lk_6 (List.mem_of_getElem? (i := 5) rfl) rfl

theorem gw_1206 : Cond.instanceMethod ({ cls := "Collationer", name := "compareByLevels", desc := "(IIII)I" } : Jvm.MethodName) ∈ mGd := lk_6 (List.mem_of_getElem? (i := 6) rfl) rfl

theorem gw_1207 : Cond.selects "Collationer" ({ cls := "Collationer", name := "compareByLevels", desc := "(IIII)I" } : Jvm.MethodName) ({ cls := "Collationer", name := "compareByLevels", desc := "(IIII)I" } : Jvm.MethodName) ∈ mGd := lk_6 (List.mem_of_getElem? (i := 7) rfl) rfl

theorem gw_1208 : Cond.code ({ cls := "Collationer", name := "compareByLevels", desc := "(IIII)I" } : Jvm.MethodName) prog_1_method_28_code (5 : Nat) (Option.some FieldType.int) ∈ mGd := lk_6 (List.mem_of_getElem? (i := 8) rfl) rfl

theorem gw_1213 : Cond.methodLink "CollationerLaw" (77 : Nat) ({ cls := "Collationer", name := "keyAt", desc := "(IIII)I" } : Jvm.MethodName) ∈ mGd := lk_6 (List.mem_of_getElem? (i := 13) rfl) rfl

theorem gw_1214 : Cond.instanceMethod ({ cls := "Collationer", name := "keyAt", desc := "(IIII)I" } : Jvm.MethodName) ∈ mGd := lk_6 (List.mem_of_getElem? (i := 14) rfl) rfl

theorem gw_1215 : Cond.selects "Collationer" ({ cls := "Collationer", name := "keyAt", desc := "(IIII)I" } : Jvm.MethodName) ({ cls := "Collationer", name := "keyAt", desc := "(IIII)I" } : Jvm.MethodName) ∈ mGd := lk_6 (List.mem_of_getElem? (i := 15) rfl) rfl

theorem gw_1216 : Cond.code ({ cls := "Collationer", name := "keyAt", desc := "(IIII)I" } : Jvm.MethodName) prog_1_method_26_code (5 : Nat) (Option.some FieldType.int) ∈ mGd := lk_6 (List.mem_of_getElem? (i := 16) rfl) rfl

theorem gw_808 : Cond.methodLink "CollationerLaw" (80 : Nat) ({ cls := "CollationerLaw", name := "on", desc := "(LCollationer;IIII)I" } : Jvm.MethodName) ∈ mGd := lk_4 (List.mem_of_getElem? (i := 88) rfl) rfl

theorem gw_809 : Cond.static ({ cls := "CollationerLaw", name := "on", desc := "(LCollationer;IIII)I" } : Jvm.MethodName) ∈ mGd := lk_4 (List.mem_of_getElem? (i := 89) rfl) rfl

theorem gw_810 : Cond.codeWith ({ cls := "CollationerLaw", name := "on", desc := "(LCollationer;IIII)I" } : Jvm.MethodName) method_3_code (6 : Nat) (Option.some FieldType.int) [((0 : Nat), (9 : Nat), (10 : Nat), (61 : Nat)), ((0 : Nat), (9 : Nat), (15 : Nat), (63 : Nat)), ((0 : Nat), (9 : Nat), (20 : Nat), (65 : Nat))] ∈ mGd := lk_4 (List.mem_of_getElem? (i := 90) rfl) rfl

theorem gw_1225 : Cond.constant "CollationerLaw" (83 : Nat) (1000000 : Int32) ∈ mGd := lk_6 (List.mem_of_getElem? (i := 25) rfl) rfl

theorem gw_1229 : Cond.methodLink "CollationerLaw" (84 : Nat) ({ cls := "Collationer", name := "beneath", desc := "(II)I" } : Jvm.MethodName) ∈ mGd := lk_6 (List.mem_of_getElem? (i := 29) rfl) rfl

theorem gw_1230 : Cond.instanceMethod ({ cls := "Collationer", name := "beneath", desc := "(II)I" } : Jvm.MethodName) ∈ mGd := lk_6 (List.mem_of_getElem? (i := 30) rfl) rfl

theorem gw_1231 : Cond.selects "Collationer" ({ cls := "Collationer", name := "beneath", desc := "(II)I" } : Jvm.MethodName) ({ cls := "Collationer", name := "beneath", desc := "(II)I" } : Jvm.MethodName) ∈ mGd := lk_6 (List.mem_of_getElem? (i := 31) rfl) rfl

theorem gw_1232 : Cond.code ({ cls := "Collationer", name := "beneath", desc := "(II)I" } : Jvm.MethodName) prog_1_method_32_code (3 : Nat) (Option.some FieldType.int) ∈ mGd := lk_6 (List.mem_of_getElem? (i := 32) rfl) rfl

theorem gw_799 : Cond.methodLink "CollationerLaw" (87 : Nat) ({ cls := "Collationer", name := "moved", desc := "(I)I" } : Jvm.MethodName) ∈ mGd := lk_4 (List.mem_of_getElem? (i := 79) rfl) rfl

theorem gw_800 : Cond.instanceMethod ({ cls := "Collationer", name := "moved", desc := "(I)I" } : Jvm.MethodName) ∈ mGd := lk_4 (List.mem_of_getElem? (i := 80) rfl) rfl

theorem gw_801 : Cond.selects "Collationer" ({ cls := "Collationer", name := "moved", desc := "(I)I" } : Jvm.MethodName) ({ cls := "Collationer", name := "moved", desc := "(I)I" } : Jvm.MethodName) ∈ mGd := lk_4 (List.mem_of_getElem? (i := 81) rfl) rfl

theorem gw_802 : Cond.code ({ cls := "Collationer", name := "moved", desc := "(I)I" } : Jvm.MethodName) prog_1_method_36_code (6 : Nat) (Option.some FieldType.int) ∈ mGd := lk_4 (List.mem_of_getElem? (i := 82) rfl) rfl

theorem gw_1236 : Cond.methodLink "CollationerLaw" (90 : Nat) ({ cls := "Collationer", name := "locatorAt", desc := "(II)I" } : Jvm.MethodName) ∈ mGd := lk_6 (List.mem_of_getElem? (i := 36) rfl) rfl

theorem gw_1237 : Cond.instanceMethod ({ cls := "Collationer", name := "locatorAt", desc := "(II)I" } : Jvm.MethodName) ∈ mGd := lk_6 (List.mem_of_getElem? (i := 37) rfl) rfl

theorem gw_1238 : Cond.selects "Collationer" ({ cls := "Collationer", name := "locatorAt", desc := "(II)I" } : Jvm.MethodName) ({ cls := "Collationer", name := "locatorAt", desc := "(II)I" } : Jvm.MethodName) ∈ mGd := lk_6 (List.mem_of_getElem? (i := 38) rfl) rfl

theorem gw_1239 : Cond.code ({ cls := "Collationer", name := "locatorAt", desc := "(II)I" } : Jvm.MethodName) prog_1_method_33_code (3 : Nat) (Option.some FieldType.int) ∈ mGd := lk_6 (List.mem_of_getElem? (i := 39) rfl) rfl

theorem gw_20 : Cond.classLink "CollationerLaw" (8 : Nat) "Collationer" ∈ mGd := lk_1 (List.mem_of_getElem? (i := 20) rfl) rfl

theorem gw_21 : Cond.instantiable "Collationer" (20 : Nat) ∈ mGd := lk_1 (List.mem_of_getElem? (i := 21) rfl) rfl

theorem gw_22 : Cond.methodLink "CollationerLaw" (93 : Nat) ({ cls := "Collationer", name := "<init>", desc := "()V" } : Jvm.MethodName) ∈ mGd := lk_1 (List.mem_of_getElem? (i := 22) rfl) rfl

theorem gw_23 : Cond.instanceMethod ({ cls := "Collationer", name := "<init>", desc := "()V" } : Jvm.MethodName) ∈ mGd := lk_1 (List.mem_of_getElem? (i := 23) rfl) rfl

theorem gw_24 : Cond.code ({ cls := "Collationer", name := "<init>", desc := "()V" } : Jvm.MethodName) prog_1_method_1_code (2 : Nat) (Option.none : Option FieldType) ∈ mGd := lk_1 (List.mem_of_getElem? (i := 24) rfl) rfl

theorem gw_741 : Cond.methodLink "CollationerLaw" (94 : Nat) ({ cls := "Collationer", name := "texts", desc := "()I" } : Jvm.MethodName) ∈ mGd := lk_4 (List.mem_of_getElem? (i := 21) rfl) rfl

theorem gw_742 : Cond.instanceMethod ({ cls := "Collationer", name := "texts", desc := "()I" } : Jvm.MethodName) ∈ mGd := lk_4 (List.mem_of_getElem? (i := 22) rfl) rfl

theorem gw_743 : Cond.selects "Collationer" ({ cls := "Collationer", name := "texts", desc := "()I" } : Jvm.MethodName) ({ cls := "Collationer", name := "texts", desc := "()I" } : Jvm.MethodName) ∈ mGd := lk_4 (List.mem_of_getElem? (i := 23) rfl) rfl

theorem gw_744 : Cond.code ({ cls := "Collationer", name := "texts", desc := "()I" } : Jvm.MethodName) prog_1_method_21_code (1 : Nat) (Option.some FieldType.int) ∈ mGd := lk_4 (List.mem_of_getElem? (i := 24) rfl) rfl

theorem gw_1222 : Cond.methodLink "CollationerLaw" (97 : Nat) ({ cls := "CollationerLaw", name := "isList", desc := "(LCollationer;I)Z" } : Jvm.MethodName) ∈ mGd := lk_6 (List.mem_of_getElem? (i := 22) rfl) rfl

theorem gw_1223 : Cond.static ({ cls := "CollationerLaw", name := "isList", desc := "(LCollationer;I)Z" } : Jvm.MethodName) ∈ mGd := lk_6 (List.mem_of_getElem? (i := 23) rfl) rfl

theorem gw_1224 : Cond.code ({ cls := "CollationerLaw", name := "isList", desc := "(LCollationer;I)Z" } : Jvm.MethodName) method_6_code (7 : Nat) (Option.some FieldType.boolean) ∈ mGd := lk_6 (List.mem_of_getElem? (i := 24) rfl) rfl

theorem gw_1246 : Cond.constant "CollationerLaw" (101 : Nat) (3230017 : Int32) ∈ mGd := lk_6 (List.mem_of_getElem? (i := 46) rfl) rfl

theorem gw_1247 : Cond.constant "CollationerLaw" (102 : Nat) (112037 : Int32) ∈ mGd := lk_6 (List.mem_of_getElem? (i := 47) rfl) rfl

theorem gw_1248 : Cond.constant "CollationerLaw" (103 : Nat) (268435455 : Int32) ∈ mGd := lk_6 (List.mem_of_getElem? (i := 48) rfl) rfl

theorem gw_1249 : Cond.constant "CollationerLaw" (104 : Nat) (1103515245 : Int32) ∈ mGd := lk_6 (List.mem_of_getElem? (i := 49) rfl) rfl

theorem gw_745 : Cond.methodLink "CollationerLaw" (105 : Nat) ({ cls := "Collationer", name := "rules", desc := "(I)I" } : Jvm.MethodName) ∈ mGd := lk_4 (List.mem_of_getElem? (i := 25) rfl) rfl

theorem gw_746 : Cond.instanceMethod ({ cls := "Collationer", name := "rules", desc := "(I)I" } : Jvm.MethodName) ∈ mGd := lk_4 (List.mem_of_getElem? (i := 26) rfl) rfl

theorem gw_747 : Cond.selects "Collationer" ({ cls := "Collationer", name := "rules", desc := "(I)I" } : Jvm.MethodName) ({ cls := "Collationer", name := "rules", desc := "(I)I" } : Jvm.MethodName) ∈ mGd := lk_4 (List.mem_of_getElem? (i := 27) rfl) rfl

theorem gw_748 : Cond.code ({ cls := "Collationer", name := "rules", desc := "(I)I" } : Jvm.MethodName) prog_1_method_23_code (2 : Nat) (Option.some FieldType.int) ∈ mGd := lk_4 (List.mem_of_getElem? (i := 28) rfl) rfl

theorem gw_361 : Cond.methodLink "CollationerLaw" (108 : Nat) ({ cls := "Collationer", name := "wipe", desc := "()I" } : Jvm.MethodName) ∈ mGd := lk_2 (List.mem_of_getElem? (i := 121) rfl) rfl

theorem gw_362 : Cond.instanceMethod ({ cls := "Collationer", name := "wipe", desc := "()I" } : Jvm.MethodName) ∈ mGd := lk_2 (List.mem_of_getElem? (i := 122) rfl) rfl

theorem gw_363 : Cond.selects "Collationer" ({ cls := "Collationer", name := "wipe", desc := "()I" } : Jvm.MethodName) ({ cls := "Collationer", name := "wipe", desc := "()I" } : Jvm.MethodName) ∈ mGd := lk_2 (List.mem_of_getElem? (i := 123) rfl) rfl

theorem gw_364 : Cond.code ({ cls := "Collationer", name := "wipe", desc := "()I" } : Jvm.MethodName) prog_1_method_5_code (2 : Nat) (Option.some FieldType.int) ∈ mGd := lk_2 (List.mem_of_getElem? (i := 124) rfl) rfl

theorem gw_367 : Cond.methodLink "CollationerLaw" (111 : Nat) ({ cls := "Collationer", name := "option", desc := "(IIZ)Z" } : Jvm.MethodName) ∈ mGd := lk_2 (List.mem_of_getElem? (i := 127) rfl) rfl

theorem gw_368 : Cond.instanceMethod ({ cls := "Collationer", name := "option", desc := "(IIZ)Z" } : Jvm.MethodName) ∈ mGd := lk_2 (List.mem_of_getElem? (i := 128) rfl) rfl

theorem gw_369 : Cond.selects "Collationer" ({ cls := "Collationer", name := "option", desc := "(IIZ)Z" } : Jvm.MethodName) ({ cls := "Collationer", name := "option", desc := "(IIZ)Z" } : Jvm.MethodName) ∈ mGd := lk_2 (List.mem_of_getElem? (i := 129) rfl) rfl

theorem gw_370 : Cond.code ({ cls := "Collationer", name := "option", desc := "(IIZ)Z" } : Jvm.MethodName) prog_1_method_9_code (5 : Nat) (Option.some FieldType.boolean) ∈ mGd := lk_2 (List.mem_of_getElem? (i := 130) rfl) rfl

theorem gw_678 : Cond.methodLink "CollationerLaw" (114 : Nat) ({ cls := "Collationer", name := "heading", desc := "(IZ)I" } : Jvm.MethodName) ∈ mGd := lk_3 (List.mem_of_getElem? (i := 198) rfl) rfl

theorem gw_679 : Cond.instanceMethod ({ cls := "Collationer", name := "heading", desc := "(IZ)I" } : Jvm.MethodName) ∈ mGd := lk_3 (List.mem_of_getElem? (i := 199) rfl) rfl

theorem gw_680 : Cond.selects "Collationer" ({ cls := "Collationer", name := "heading", desc := "(IZ)I" } : Jvm.MethodName) ({ cls := "Collationer", name := "heading", desc := "(IZ)I" } : Jvm.MethodName) ∈ mGd := lk_3 (List.mem_of_getElem? (i := 200) rfl) rfl

theorem gw_681 : Cond.code ({ cls := "Collationer", name := "heading", desc := "(IZ)I" } : Jvm.MethodName) prog_1_method_10_code (5 : Nat) (Option.some FieldType.int) ∈ mGd := lk_3 (List.mem_of_getElem? (i := 201) rfl) rfl

theorem gw_758 : Cond.methodLink "CollationerLaw" (118 : Nat) ({ cls := "Collationer", name := "leads", desc := "(I)I" } : Jvm.MethodName) ∈ mGd := lk_4 (List.mem_of_getElem? (i := 38) rfl) rfl

theorem gw_759 : Cond.instanceMethod ({ cls := "Collationer", name := "leads", desc := "(I)I" } : Jvm.MethodName) ∈ mGd := lk_4 (List.mem_of_getElem? (i := 39) rfl) rfl

theorem gw_760 : Cond.selects "Collationer" ({ cls := "Collationer", name := "leads", desc := "(I)I" } : Jvm.MethodName) ({ cls := "Collationer", name := "leads", desc := "(I)I" } : Jvm.MethodName) ∈ mGd := lk_4 (List.mem_of_getElem? (i := 40) rfl) rfl

theorem gw_761 : Cond.code ({ cls := "Collationer", name := "leads", desc := "(I)I" } : Jvm.MethodName) prog_1_method_34_code (2 : Nat) (Option.some FieldType.int) ∈ mGd := lk_4 (List.mem_of_getElem? (i := 41) rfl) rfl

theorem gw_787 : Cond.methodLink "CollationerLaw" (121 : Nat) ({ cls := "Collationer", name := "dead", desc := "()I" } : Jvm.MethodName) ∈ mGd := lk_4 (List.mem_of_getElem? (i := 67) rfl) rfl

theorem gw_788 : Cond.instanceMethod ({ cls := "Collationer", name := "dead", desc := "()I" } : Jvm.MethodName) ∈ mGd := lk_4 (List.mem_of_getElem? (i := 68) rfl) rfl

theorem gw_789 : Cond.selects "Collationer" ({ cls := "Collationer", name := "dead", desc := "()I" } : Jvm.MethodName) ({ cls := "Collationer", name := "dead", desc := "()I" } : Jvm.MethodName) ∈ mGd := lk_4 (List.mem_of_getElem? (i := 69) rfl) rfl

theorem gw_790 : Cond.code ({ cls := "Collationer", name := "dead", desc := "()I" } : Jvm.MethodName) prog_1_method_35_code (3 : Nat) (Option.some FieldType.int) ∈ mGd := lk_4 (List.mem_of_getElem? (i := 70) rfl) rfl

theorem gw_683 : Cond.methodLink "CollationerLaw" (124 : Nat) ({ cls := "Collationer", name := "word", desc := "(I)I" } : Jvm.MethodName) ∈ mGd := lk_3 (List.mem_of_getElem? (i := 203) rfl) rfl

theorem gw_684 : Cond.instanceMethod ({ cls := "Collationer", name := "word", desc := "(I)I" } : Jvm.MethodName) ∈ mGd := lk_3 (List.mem_of_getElem? (i := 204) rfl) rfl

theorem gw_685 : Cond.selects "Collationer" ({ cls := "Collationer", name := "word", desc := "(I)I" } : Jvm.MethodName) ({ cls := "Collationer", name := "word", desc := "(I)I" } : Jvm.MethodName) ∈ mGd := lk_3 (List.mem_of_getElem? (i := 205) rfl) rfl

theorem gw_686 : Cond.code ({ cls := "Collationer", name := "word", desc := "(I)I" } : Jvm.MethodName) prog_1_method_15_code (2 : Nat) (Option.some FieldType.int) ∈ mGd := lk_3 (List.mem_of_getElem? (i := 206) rfl) rfl

theorem gw_718 : Cond.methodLink "CollationerLaw" (127 : Nat) ({ cls := "Collationer", name := "columns", desc := "(II)I" } : Jvm.MethodName) ∈ mGd := lk_3 (List.mem_of_getElem? (i := 238) rfl) rfl

theorem gw_719 : Cond.instanceMethod ({ cls := "Collationer", name := "columns", desc := "(II)I" } : Jvm.MethodName) ∈ mGd := lk_3 (List.mem_of_getElem? (i := 239) rfl) rfl

theorem gw_720 : Cond.selects "Collationer" ({ cls := "Collationer", name := "columns", desc := "(II)I" } : Jvm.MethodName) ({ cls := "Collationer", name := "columns", desc := "(II)I" } : Jvm.MethodName) ∈ mGd := lk_4 (List.mem_of_getElem? (i := 0) rfl) rfl

theorem gw_721 : Cond.code ({ cls := "Collationer", name := "columns", desc := "(II)I" } : Jvm.MethodName) prog_1_method_20_code (4 : Nat) (Option.some FieldType.int) ∈ mGd := lk_4 (List.mem_of_getElem? (i := 1) rfl) rfl

theorem gw_1179 : Cond.methodLink "CollationerLaw" (130 : Nat) ({ cls := "CollationerLaw", name := "isText", desc := "(LCollationer;I)Z" } : Jvm.MethodName) ∈ mGd := lk_5 (List.mem_of_getElem? (i := 219) rfl) rfl

theorem gw_1180 : Cond.static ({ cls := "CollationerLaw", name := "isText", desc := "(LCollationer;I)Z" } : Jvm.MethodName) ∈ mGd := lk_5 (List.mem_of_getElem? (i := 220) rfl) rfl

theorem gw_1181 : Cond.code ({ cls := "CollationerLaw", name := "isText", desc := "(LCollationer;I)Z" } : Jvm.MethodName) method_4_code (8 : Nat) (Option.some FieldType.boolean) ∈ mGd := lk_5 (List.mem_of_getElem? (i := 221) rfl) rfl

theorem gw_1187 : Cond.methodLink "CollationerLaw" (133 : Nat) ({ cls := "CollationerLaw", name := "isCompared", desc := "(LCollationer;III)Z" } : Jvm.MethodName) ∈ mGd := lk_5 (List.mem_of_getElem? (i := 227) rfl) rfl

theorem gw_1188 : Cond.static ({ cls := "CollationerLaw", name := "isCompared", desc := "(LCollationer;III)Z" } : Jvm.MethodName) ∈ mGd := lk_5 (List.mem_of_getElem? (i := 228) rfl) rfl

theorem gw_1189 : Cond.code ({ cls := "CollationerLaw", name := "isCompared", desc := "(LCollationer;III)Z" } : Jvm.MethodName) method_5_code (11 : Nat) (Option.some FieldType.boolean) ∈ mGd := lk_5 (List.mem_of_getElem? (i := 229) rfl) rfl

theorem gw_754 : Cond.methodLink "CollationerLaw" (137 : Nat) ({ cls := "Collationer", name := "entries", desc := "()I" } : Jvm.MethodName) ∈ mGd := lk_4 (List.mem_of_getElem? (i := 34) rfl) rfl

theorem gw_755 : Cond.instanceMethod ({ cls := "Collationer", name := "entries", desc := "()I" } : Jvm.MethodName) ∈ mGd := lk_4 (List.mem_of_getElem? (i := 35) rfl) rfl

theorem gw_756 : Cond.selects "Collationer" ({ cls := "Collationer", name := "entries", desc := "()I" } : Jvm.MethodName) ({ cls := "Collationer", name := "entries", desc := "()I" } : Jvm.MethodName) ∈ mGd := lk_4 (List.mem_of_getElem? (i := 36) rfl) rfl

theorem gw_757 : Cond.code ({ cls := "Collationer", name := "entries", desc := "()I" } : Jvm.MethodName) prog_1_method_30_code (1 : Nat) (Option.some FieldType.int) ∈ mGd := lk_4 (List.mem_of_getElem? (i := 37) rfl) rfl

theorem gw_1233 : Cond.methodLink "CollationerLaw" (140 : Nat) ({ cls := "CollationerLaw", name := "isLocated", desc := "(LCollationer;II)Z" } : Jvm.MethodName) ∈ mGd := lk_6 (List.mem_of_getElem? (i := 33) rfl) rfl

theorem gw_1234 : Cond.static ({ cls := "CollationerLaw", name := "isLocated", desc := "(LCollationer;II)Z" } : Jvm.MethodName) ∈ mGd := lk_6 (List.mem_of_getElem? (i := 34) rfl) rfl

theorem gw_1235 : Cond.code ({ cls := "CollationerLaw", name := "isLocated", desc := "(LCollationer;II)Z" } : Jvm.MethodName) method_8_code (10 : Nat) (Option.some FieldType.boolean) ∈ mGd := lk_6 (List.mem_of_getElem? (i := 35) rfl) rfl

theorem gw_1226 : Cond.methodLink "CollationerLaw" (144 : Nat) ({ cls := "CollationerLaw", name := "isIndex", desc := "(LCollationer;[I[III)Z" } : Jvm.MethodName) ∈ mGd := lk_6 (List.mem_of_getElem? (i := 26) rfl) rfl

theorem gw_1227 : Cond.static ({ cls := "CollationerLaw", name := "isIndex", desc := "(LCollationer;[I[III)Z" } : Jvm.MethodName) ∈ mGd := lk_6 (List.mem_of_getElem? (i := 27) rfl) rfl

theorem gw_1228 : Cond.code ({ cls := "CollationerLaw", name := "isIndex", desc := "(LCollationer;[I[III)Z" } : Jvm.MethodName) method_7_code (13 : Nat) (Option.some FieldType.boolean) ∈ mGd := lk_6 (List.mem_of_getElem? (i := 28) rfl) rfl

theorem gw_212 : Cond.laysFinal "Collationer$Collator" "Collationer$Collator" "elements" "LCollationer$Elements;" ∈ mGd := lk_1 (List.mem_of_getElem? (i := 212) rfl) rfl

theorem gw_214 : Cond.laysFinal "Collationer$Collator" "Collationer$Collator" "partElements" "LCollationer$Elements;" ∈ mGd := lk_1 (List.mem_of_getElem? (i := 214) rfl) rfl

theorem gw_216 : Cond.laysFinal "Collationer$Collator" "Collationer$Collator" "weights" "LCollationer$Row;" ∈ mGd := lk_1 (List.mem_of_getElem? (i := 216) rfl) rfl

theorem gw_218 : Cond.laysFinal "Collationer$Collator" "Collationer$Collator" "otherWeights" "LCollationer$Row;" ∈ mGd := lk_1 (List.mem_of_getElem? (i := 218) rfl) rfl

theorem gw_220 : Cond.laysFinal "Collationer$Collator" "Collationer$Collator" "bytes" "LCollationer$Row;" ∈ mGd := lk_1 (List.mem_of_getElem? (i := 220) rfl) rfl

theorem gw_222 : Cond.laysFinal "Collationer$Collator" "Collationer$Collator" "otherBytes" "LCollationer$Row;" ∈ mGd := lk_1 (List.mem_of_getElem? (i := 222) rfl) rfl

theorem gw_224 : Cond.laysFinal "Collationer$Collator" "Collationer$Collator" "part" "LCollationer$Row;" ∈ mGd := lk_1 (List.mem_of_getElem? (i := 224) rfl) rfl

theorem gw_37 : Cond.laysFinal "Collationer$Compositions" "Collationer$Compositions" "bases" "[I" ∈ mGd := lk_1 (List.mem_of_getElem? (i := 37) rfl) rfl

theorem gw_39 : Cond.laysFinal "Collationer$Compositions" "Collationer$Compositions" "marks" "[I" ∈ mGd := lk_1 (List.mem_of_getElem? (i := 39) rfl) rfl

theorem gw_41 : Cond.lays "Collationer$Compositions" "Collationer$Compositions" "count" "I" ∈ mGd := lk_1 (List.mem_of_getElem? (i := 41) rfl) rfl

theorem gw_148 : Cond.laysFinal "Collationer$Corpus" "Collationer$Corpus" "wordTexts" "LCollationer$Row;" ∈ mGd := lk_1 (List.mem_of_getElem? (i := 148) rfl) rfl

theorem gw_150 : Cond.laysFinal "Collationer$Corpus" "Collationer$Corpus" "wordReads" "LCollationer$Row;" ∈ mGd := lk_1 (List.mem_of_getElem? (i := 150) rfl) rfl

theorem gw_152 : Cond.laysFinal "Collationer$Corpus" "Collationer$Corpus" "readings" "[LCollationer$Row;" ∈ mGd := lk_1 (List.mem_of_getElem? (i := 152) rfl) rfl

theorem gw_190 : Cond.laysFinal "Collationer$Elements" "Collationer$Elements" "firsts" "LCollationer$Row;" ∈ mGd := lk_1 (List.mem_of_getElem? (i := 190) rfl) rfl

theorem gw_192 : Cond.laysFinal "Collationer$Elements" "Collationer$Elements" "seconds" "LCollationer$Row;" ∈ mGd := lk_1 (List.mem_of_getElem? (i := 192) rfl) rfl

theorem gw_194 : Cond.laysFinal "Collationer$Elements" "Collationer$Elements" "thirds" "LCollationer$Row;" ∈ mGd := lk_1 (List.mem_of_getElem? (i := 194) rfl) rfl

theorem gw_196 : Cond.laysFinal "Collationer$Elements" "Collationer$Elements" "kinds" "LCollationer$Row;" ∈ mGd := lk_1 (List.mem_of_getElem? (i := 196) rfl) rfl

theorem gw_198 : Cond.laysFinal "Collationer$Elements" "Collationer$Elements" "takers" "LCollationer$Row;" ∈ mGd := lk_1 (List.mem_of_getElem? (i := 198) rfl) rfl

theorem gw_200 : Cond.lays "Collationer$Elements" "Collationer$Elements" "kind" "I" ∈ mGd := lk_1 (List.mem_of_getElem? (i := 200) rfl) rfl

theorem gw_281 : Cond.lays "Collationer$Entry" "Collationer$Entry" "textNumber" "I" ∈ mGd := lk_2 (List.mem_of_getElem? (i := 41) rfl) rfl

theorem gw_283 : Cond.lays "Collationer$Entry" "Collationer$Entry" "parent" "I" ∈ mGd := lk_2 (List.mem_of_getElem? (i := 43) rfl) rfl

theorem gw_285 : Cond.lays "Collationer$Entry" "Collationer$Entry" "indexSet" "I" ∈ mGd := lk_2 (List.mem_of_getElem? (i := 45) rfl) rfl

theorem gw_287 : Cond.lays "Collationer$Entry" "Collationer$Entry" "formKind" "I" ∈ mGd := lk_2 (List.mem_of_getElem? (i := 47) rfl) rfl

theorem gw_289 : Cond.lays "Collationer$Entry" "Collationer$Entry" "formSigns" "I" ∈ mGd := lk_2 (List.mem_of_getElem? (i := 49) rfl) rfl

theorem gw_291 : Cond.laysFinal "Collationer$Entry" "Collationer$Entry" "locators" "LCollationer$Row;" ∈ mGd := lk_2 (List.mem_of_getElem? (i := 51) rfl) rfl

theorem gw_293 : Cond.laysFinal "Collationer$Entry" "Collationer$Entry" "staying" "LCollationer$Row;" ∈ mGd := lk_2 (List.mem_of_getElem? (i := 53) rfl) rfl

theorem gw_295 : Cond.lays "Collationer$Entry" "Collationer$Entry" "seen" "I" ∈ mGd := lk_2 (List.mem_of_getElem? (i := 55) rfl) rfl

theorem gw_297 : Cond.lays "Collationer$Entry" "Collationer$Entry" "seenAlso" "I" ∈ mGd := lk_2 (List.mem_of_getElem? (i := 57) rfl) rfl

theorem gw_238 : Cond.laysFinal "Collationer$Groups" "Collationer$Groups" "sorts" "LCollationer$Row;" ∈ mGd := lk_1 (List.mem_of_getElem? (i := 238) rfl) rfl

theorem gw_240 : Cond.laysFinal "Collationer$Groups" "Collationer$Groups" "firsts" "LCollationer$Row;" ∈ mGd := lk_2 (List.mem_of_getElem? (i := 0) rfl) rfl

theorem gw_242 : Cond.laysFinal "Collationer$Groups" "Collationer$Groups" "lasts" "LCollationer$Row;" ∈ mGd := lk_2 (List.mem_of_getElem? (i := 2) rfl) rfl

theorem gw_256 : Cond.laysFinal "Collationer$Index" "Collationer$Index" "order" "LCollationer$Row;" ∈ mGd := lk_2 (List.mem_of_getElem? (i := 16) rfl) rfl

theorem gw_258 : Cond.laysFinal "Collationer$Index" "Collationer$Index" "firstWeights" "LCollationer$Row;" ∈ mGd := lk_2 (List.mem_of_getElem? (i := 18) rfl) rfl

theorem gw_260 : Cond.laysFinal "Collationer$Index" "Collationer$Index" "before" "LCollationer$Row;" ∈ mGd := lk_2 (List.mem_of_getElem? (i := 20) rfl) rfl

theorem gw_262 : Cond.lays "Collationer$Index" "Collationer$Index" "isOrdered" "Z" ∈ mGd := lk_2 (List.mem_of_getElem? (i := 22) rfl) rfl

theorem gw_165 : Cond.laysFinal "Collationer$Pins" "Collationer$Pins" "pages" "LCollationer$Row;" ∈ mGd := lk_1 (List.mem_of_getElem? (i := 165) rfl) rfl

theorem gw_167 : Cond.laysFinal "Collationer$Pins" "Collationer$Pins" "nexts" "LCollationer$Row;" ∈ mGd := lk_1 (List.mem_of_getElem? (i := 167) rfl) rfl

theorem gw_56 : Cond.laysFinal "Collationer$Row" "Collationer$Row" "cells" "[I" ∈ mGd := lk_1 (List.mem_of_getElem? (i := 56) rfl) rfl

theorem gw_58 : Cond.lays "Collationer$Row" "Collationer$Row" "size" "I" ∈ mGd := lk_1 (List.mem_of_getElem? (i := 58) rfl) rfl

theorem gw_109 : Cond.laysFinal "Collationer$Tailoring" "Collationer$Tailoring" "items" "LCollationer$Row;" ∈ mGd := lk_1 (List.mem_of_getElem? (i := 109) rfl) rfl

theorem gw_111 : Cond.laysFinal "Collationer$Tailoring" "Collationer$Tailoring" "levels" "LCollationer$Row;" ∈ mGd := lk_1 (List.mem_of_getElem? (i := 111) rfl) rfl

theorem gw_113 : Cond.laysFinal "Collationer$Tailoring" "Collationer$Tailoring" "firsts" "LCollationer$Row;" ∈ mGd := lk_1 (List.mem_of_getElem? (i := 113) rfl) rfl

theorem gw_115 : Cond.laysFinal "Collationer$Tailoring" "Collationer$Tailoring" "seconds" "LCollationer$Row;" ∈ mGd := lk_1 (List.mem_of_getElem? (i := 115) rfl) rfl

theorem gw_117 : Cond.laysFinal "Collationer$Tailoring" "Collationer$Tailoring" "thirds" "LCollationer$Row;" ∈ mGd := lk_1 (List.mem_of_getElem? (i := 117) rfl) rfl

theorem gw_119 : Cond.laysFinal "Collationer$Tailoring" "Collationer$Tailoring" "severalItems" "LCollationer$Row;" ∈ mGd := lk_1 (List.mem_of_getElem? (i := 119) rfl) rfl

theorem gw_121 : Cond.laysFinal "Collationer$Tailoring" "Collationer$Tailoring" "severalSigns" "LCollationer$Row;" ∈ mGd := lk_1 (List.mem_of_getElem? (i := 121) rfl) rfl

theorem gw_123 : Cond.laysFinal "Collationer$Tailoring" "Collationer$Tailoring" "hows" "LCollationer$Row;" ∈ mGd := lk_1 (List.mem_of_getElem? (i := 123) rfl) rfl

theorem gw_125 : Cond.laysFinal "Collationer$Tailoring" "Collationer$Tailoring" "anchorCodes" "LCollationer$Row;" ∈ mGd := lk_1 (List.mem_of_getElem? (i := 125) rfl) rfl

theorem gw_127 : Cond.laysFinal "Collationer$Tailoring" "Collationer$Tailoring" "itemCodes" "LCollationer$Row;" ∈ mGd := lk_1 (List.mem_of_getElem? (i := 127) rfl) rfl

theorem gw_129 : Cond.laysFinal "Collationer$Tailoring" "Collationer$Tailoring" "options" "[Z" ∈ mGd := lk_1 (List.mem_of_getElem? (i := 129) rfl) rfl

theorem gw_320 : Cond.laysFinal "Collationer" "Collationer" "compositions" "LCollationer$Compositions;" ∈ mGd := lk_2 (List.mem_of_getElem? (i := 80) rfl) rfl

theorem gw_322 : Cond.laysFinal "Collationer" "Collationer" "draft" "LCollationer$Row;" ∈ mGd := lk_2 (List.mem_of_getElem? (i := 82) rfl) rfl

theorem gw_324 : Cond.laysFinal "Collationer" "Collationer" "ruleAnchor" "LCollationer$Row;" ∈ mGd := lk_2 (List.mem_of_getElem? (i := 84) rfl) rfl

theorem gw_326 : Cond.laysFinal "Collationer" "Collationer" "apartTexts" "[LCollationer$Row;" ∈ mGd := lk_2 (List.mem_of_getElem? (i := 86) rfl) rfl

theorem gw_328 : Cond.lays "Collationer" "Collationer" "textCount" "I" ∈ mGd := lk_2 (List.mem_of_getElem? (i := 88) rfl) rfl

theorem gw_330 : Cond.laysFinal "Collationer" "Collationer" "tailorings" "[LCollationer$Tailoring;" ∈ mGd := lk_2 (List.mem_of_getElem? (i := 90) rfl) rfl

theorem gw_332 : Cond.laysFinal "Collationer" "Collationer" "trial" "LCollationer$Tailoring;" ∈ mGd := lk_2 (List.mem_of_getElem? (i := 92) rfl) rfl

theorem gw_334 : Cond.laysFinal "Collationer" "Collationer" "isHeading" "[Z" ∈ mGd := lk_2 (List.mem_of_getElem? (i := 94) rfl) rfl

theorem gw_336 : Cond.laysFinal "Collationer" "Collationer" "allEntries" "[LCollationer$Entry;" ∈ mGd := lk_2 (List.mem_of_getElem? (i := 96) rfl) rfl

theorem gw_338 : Cond.lays "Collationer" "Collationer" "entryCount" "I" ∈ mGd := lk_2 (List.mem_of_getElem? (i := 98) rfl) rfl

theorem gw_340 : Cond.laysFinal "Collationer" "Collationer" "orders" "[LCollationer$Index;" ∈ mGd := lk_2 (List.mem_of_getElem? (i := 100) rfl) rfl

theorem gw_342 : Cond.laysFinal "Collationer" "Collationer" "corpus" "LCollationer$Corpus;" ∈ mGd := lk_2 (List.mem_of_getElem? (i := 102) rfl) rfl

theorem gw_344 : Cond.laysFinal "Collationer" "Collationer" "pins" "LCollationer$Pins;" ∈ mGd := lk_2 (List.mem_of_getElem? (i := 104) rfl) rfl

theorem gw_346 : Cond.lays "Collationer" "Collationer" "columnWidth" "I" ∈ mGd := lk_2 (List.mem_of_getElem? (i := 106) rfl) rfl

theorem gw_348 : Cond.lays "Collationer" "Collationer" "columnHeight" "I" ∈ mGd := lk_2 (List.mem_of_getElem? (i := 108) rfl) rfl

theorem gw_350 : Cond.laysFinal "Collationer" "Collationer" "collator" "LCollationer$Collator;" ∈ mGd := lk_2 (List.mem_of_getElem? (i := 110) rfl) rfl

theorem gw_352 : Cond.laysFinal "Collationer" "Collationer" "keys" "[LCollationer$Row;" ∈ mGd := lk_2 (List.mem_of_getElem? (i := 112) rfl) rfl

theorem gw_354 : Cond.laysFinal "Collationer" "Collationer" "signRow" "LCollationer$Row;" ∈ mGd := lk_2 (List.mem_of_getElem? (i := 114) rfl) rfl

theorem gw_356 : Cond.laysFinal "Collationer" "Collationer" "orderRow" "LCollationer$Row;" ∈ mGd := lk_2 (List.mem_of_getElem? (i := 116) rfl) rfl

theorem gw_358 : Cond.laysFinal "Collationer" "Collationer" "groups" "LCollationer$Groups;" ∈ mGd := lk_2 (List.mem_of_getElem? (i := 118) rfl) rfl
