theorem tb_in : ∀ w ∈ tables_1, w ∈ lw_tbl := fun w h => List.mem_append_right _ h
theorem tc_1 {w : Cond} {i : Nat} (h0 : tables_1_1[i]? = some w) : w ∈ lw_tbl := tb_in w (by
  have h := List.mem_of_getElem? h0
  show w ∈ tables_1_1 ++ (tables_1_2 ++ (tables_1_3 ++ (tables_1_4 ++ (tables_1_5 ++ (tables_1_6 ++ (tables_1_7 ++ (tables_1_8)))))))
  exact List.mem_append_left _ h)
theorem tb_1 {w : Cond} {i : Nat} (h0 : tables_1_1[i]? = some w) (hg : goodWord w = true) : w ∈ pg_W := List.mem_filter.mpr ⟨tc_1 h0, hg⟩
theorem tc_2 {w : Cond} {i : Nat} (h0 : tables_1_2[i]? = some w) : w ∈ lw_tbl := tb_in w (by
  have h := List.mem_of_getElem? h0
  show w ∈ tables_1_1 ++ (tables_1_2 ++ (tables_1_3 ++ (tables_1_4 ++ (tables_1_5 ++ (tables_1_6 ++ (tables_1_7 ++ (tables_1_8)))))))
  exact List.mem_append_right _ (List.mem_append_left _ h))
theorem tb_2 {w : Cond} {i : Nat} (h0 : tables_1_2[i]? = some w) (hg : goodWord w = true) : w ∈ pg_W := List.mem_filter.mpr ⟨tc_2 h0, hg⟩
theorem tc_3 {w : Cond} {i : Nat} (h0 : tables_1_3[i]? = some w) : w ∈ lw_tbl := tb_in w (by
  have h := List.mem_of_getElem? h0
  show w ∈ tables_1_1 ++ (tables_1_2 ++ (tables_1_3 ++ (tables_1_4 ++ (tables_1_5 ++ (tables_1_6 ++ (tables_1_7 ++ (tables_1_8)))))))
  exact List.mem_append_right _ (List.mem_append_right _ (List.mem_append_left _ h)))
theorem tb_3 {w : Cond} {i : Nat} (h0 : tables_1_3[i]? = some w) (hg : goodWord w = true) : w ∈ pg_W := List.mem_filter.mpr ⟨tc_3 h0, hg⟩
theorem tc_4 {w : Cond} {i : Nat} (h0 : tables_1_4[i]? = some w) : w ∈ lw_tbl := tb_in w (by
  have h := List.mem_of_getElem? h0
  show w ∈ tables_1_1 ++ (tables_1_2 ++ (tables_1_3 ++ (tables_1_4 ++ (tables_1_5 ++ (tables_1_6 ++ (tables_1_7 ++ (tables_1_8)))))))
  exact List.mem_append_right _ (List.mem_append_right _ (List.mem_append_right _ (List.mem_append_left _ h))))
theorem tb_4 {w : Cond} {i : Nat} (h0 : tables_1_4[i]? = some w) (hg : goodWord w = true) : w ∈ pg_W := List.mem_filter.mpr ⟨tc_4 h0, hg⟩
theorem tc_5 {w : Cond} {i : Nat} (h0 : tables_1_5[i]? = some w) : w ∈ lw_tbl := tb_in w (by
  have h := List.mem_of_getElem? h0
  show w ∈ tables_1_1 ++ (tables_1_2 ++ (tables_1_3 ++ (tables_1_4 ++ (tables_1_5 ++ (tables_1_6 ++ (tables_1_7 ++ (tables_1_8)))))))
  exact List.mem_append_right _ (List.mem_append_right _ (List.mem_append_right _ (List.mem_append_right _ (List.mem_append_left _ h)))))
theorem tb_5 {w : Cond} {i : Nat} (h0 : tables_1_5[i]? = some w) (hg : goodWord w = true) : w ∈ pg_W := List.mem_filter.mpr ⟨tc_5 h0, hg⟩
theorem tc_6 {w : Cond} {i : Nat} (h0 : tables_1_6[i]? = some w) : w ∈ lw_tbl := tb_in w (by
  have h := List.mem_of_getElem? h0
  show w ∈ tables_1_1 ++ (tables_1_2 ++ (tables_1_3 ++ (tables_1_4 ++ (tables_1_5 ++ (tables_1_6 ++ (tables_1_7 ++ (tables_1_8)))))))
  exact List.mem_append_right _ (List.mem_append_right _ (List.mem_append_right _ (List.mem_append_right _ (List.mem_append_right _ (List.mem_append_left _ h))))))
theorem tb_6 {w : Cond} {i : Nat} (h0 : tables_1_6[i]? = some w) (hg : goodWord w = true) : w ∈ pg_W := List.mem_filter.mpr ⟨tc_6 h0, hg⟩
theorem tc_7 {w : Cond} {i : Nat} (h0 : tables_1_7[i]? = some w) : w ∈ lw_tbl := tb_in w (by
  have h := List.mem_of_getElem? h0
  show w ∈ tables_1_1 ++ (tables_1_2 ++ (tables_1_3 ++ (tables_1_4 ++ (tables_1_5 ++ (tables_1_6 ++ (tables_1_7 ++ (tables_1_8)))))))
  exact List.mem_append_right _ (List.mem_append_right _ (List.mem_append_right _ (List.mem_append_right _ (List.mem_append_right _ (List.mem_append_right _ (List.mem_append_left _ h)))))))
theorem tb_7 {w : Cond} {i : Nat} (h0 : tables_1_7[i]? = some w) (hg : goodWord w = true) : w ∈ pg_W := List.mem_filter.mpr ⟨tc_7 h0, hg⟩
theorem tc_8 {w : Cond} {i : Nat} (h0 : tables_1_8[i]? = some w) : w ∈ lw_tbl := tb_in w (by
  have h := List.mem_of_getElem? h0
  show w ∈ tables_1_1 ++ (tables_1_2 ++ (tables_1_3 ++ (tables_1_4 ++ (tables_1_5 ++ (tables_1_6 ++ (tables_1_7 ++ (tables_1_8)))))))
  exact List.mem_append_right _ (List.mem_append_right _ (List.mem_append_right _ (List.mem_append_right _ (List.mem_append_right _ (List.mem_append_right _ (List.mem_append_right _ (h))))))))
theorem tb_8 {w : Cond} {i : Nat} (h0 : tables_1_8[i]? = some w) (hg : goodWord w = true) : w ∈ pg_W := List.mem_filter.mpr ⟨tc_8 h0, hg⟩
theorem pg_sel {q : MethodName × Nat} (h : q ∈ lw_privs) (hg : goodWord (Cond.selects q.1.cls q.1 q.1) = true) : Cond.selects q.1.cls q.1 q.1 ∈ pg_W := List.mem_filter.mpr ⟨List.mem_append_left _ (List.mem_map.mpr ⟨q, h, rfl⟩), hg⟩
theorem pw1_1 : (Jvm.Cond.initialized "SkyMargins") ∈ pg_W := tb_1 (i := 1) rfl rfl
theorem pw1_2 : (Jvm.Cond.initialized "SkyMargins$Shelf") ∈ pg_W := tb_1 (i := 2) rfl rfl
theorem pw1_3 : (Jvm.Cond.initialized "SkyMargins$Table") ∈ pg_W := tb_1 (i := 3) rfl rfl
theorem pw1_5 : (Jvm.Cond.initialized "SkyMargins$Tape") ∈ pg_W := tb_1 (i := 5) rfl rfl
theorem pw1_6 : (Jvm.Cond.initialized "SkyMargins$Parser") ∈ pg_W := tb_1 (i := 6) rfl rfl
theorem pw1_7 : (Jvm.Cond.initialized "SkyMargins$Asker") ∈ pg_W := tb_1 (i := 7) rfl rfl
theorem pw1_8 : (Jvm.Cond.initialized "SkyMargins$Readings") ∈ pg_W := tb_1 (i := 8) rfl rfl
theorem pw1_9 : (Jvm.Cond.initialized "SkyMargins$Stemma") ∈ pg_W := tb_1 (i := 9) rfl rfl
theorem pw1_10 : (Jvm.Cond.initialized "SkyMargins$Odds") ∈ pg_W := tb_1 (i := 10) rfl rfl
theorem pw1_11 : (Jvm.Cond.initialized "SkyMargins$Big") ∈ pg_W := tb_1 (i := 11) rfl rfl
theorem pw1_12 : (Jvm.Cond.initialized "SkyMargins$World") ∈ pg_W := tb_1 (i := 12) rfl rfl
theorem pw1_13 : (Jvm.Cond.initialized "SkyMarginsModel") ∈ pg_W := tb_1 (i := 13) rfl rfl
theorem pw1_14 : (Jvm.Cond.initialized "java/util/Arrays") ∈ pg_W := tb_1 (i := 14) rfl rfl
theorem pw1_15 : (Jvm.Cond.initialized "java/lang/Integer") ∈ pg_W := tb_1 (i := 15) rfl rfl
theorem pw1_20 : (Jvm.Cond.initialized "SkyMargins$Text") ∈ pg_W := tb_1 (i := 20) rfl rfl
theorem pw1_22 : (Jvm.Cond.initialized "java/lang/Long") ∈ pg_W := tb_1 (i := 22) rfl rfl
theorem pw1_23 : (Jvm.Cond.classLink "SkyMarginsLaw" (7 : Nat) "SkyMargins") ∈ pg_W := tb_1 (i := 23) rfl rfl
theorem pw1_24 : (Jvm.Cond.instantiable "SkyMargins" (16 : Nat)) ∈ pg_W := tb_1 (i := 24) rfl rfl
theorem pw1_25 : (Jvm.Cond.methodLink "SkyMarginsLaw" (9 : Nat) ({ cls := "SkyMargins", name := "<init>", desc := "()V" } : Jvm.MethodName)) ∈ pg_W := tb_1 (i := 25) rfl rfl
theorem pw1_26 : (Jvm.Cond.instanceMethod ({ cls := "SkyMargins", name := "<init>", desc := "()V" } : Jvm.MethodName)) ∈ pg_W := tb_1 (i := 26) rfl rfl
theorem pw1_27 : (Jvm.Cond.code ({ cls := "SkyMargins", name := "<init>", desc := "()V" } : Jvm.MethodName) prog_1_method_1_code (1 : Nat) (Option.none : Option Jvm.ClassFile.FieldType)) ∈ pg_W := tb_1 (i := 27) rfl rfl
theorem pw1_28 : (Jvm.Cond.methodLink "SkyMargins" (1 : Nat) ({ cls := "java/lang/Object", name := "<init>", desc := "()V" } : Jvm.MethodName)) ∈ pg_W := tb_1 (i := 28) rfl rfl
theorem pw1_31 : (Jvm.Cond.classLink "SkyMargins" (7 : Nat) "SkyMargins$Shelf") ∈ pg_W := tb_1 (i := 31) rfl rfl
theorem pw1_32 : (Jvm.Cond.instantiable "SkyMargins$Shelf" (9 : Nat)) ∈ pg_W := tb_1 (i := 32) rfl rfl
theorem pw1_33 : (Jvm.Cond.methodLink "SkyMargins" (9 : Nat) ({ cls := "SkyMargins$Shelf", name := "<init>", desc := "()V" } : Jvm.MethodName)) ∈ pg_W := tb_1 (i := 33) rfl rfl
theorem pw1_34 : (Jvm.Cond.instanceMethod ({ cls := "SkyMargins$Shelf", name := "<init>", desc := "()V" } : Jvm.MethodName)) ∈ pg_W := tb_1 (i := 34) rfl rfl
theorem pw1_35 : (Jvm.Cond.code ({ cls := "SkyMargins$Shelf", name := "<init>", desc := "()V" } : Jvm.MethodName) prog_7_method_1_code (2 : Nat) (Option.none : Option Jvm.ClassFile.FieldType)) ∈ pg_W := tb_1 (i := 35) rfl rfl
theorem pw1_36 : (Jvm.Cond.methodLink "SkyMargins$Shelf" (3 : Nat) ({ cls := "java/lang/Object", name := "<init>", desc := "()V" } : Jvm.MethodName)) ∈ pg_W := tb_1 (i := 36) rfl rfl
theorem pw1_37 : (Jvm.Cond.classLink "SkyMargins$Shelf" (9 : Nat) "SkyMargins$Table") ∈ pg_W := tb_1 (i := 37) rfl rfl
theorem pw1_38 : (Jvm.Cond.instantiable "SkyMargins$Table" (4 : Nat)) ∈ pg_W := tb_1 (i := 38) rfl rfl
theorem pw1_39 : (Jvm.Cond.methodLink "SkyMargins$Shelf" (11 : Nat) ({ cls := "SkyMargins$Table", name := "<init>", desc := "(II)V" } : Jvm.MethodName)) ∈ pg_W := tb_1 (i := 39) rfl rfl
theorem pw1_40 : (Jvm.Cond.instanceMethod ({ cls := "SkyMargins$Table", name := "<init>", desc := "(II)V" } : Jvm.MethodName)) ∈ pg_W := tb_1 (i := 40) rfl rfl
theorem pw1_41 : (Jvm.Cond.code ({ cls := "SkyMargins$Table", name := "<init>", desc := "(II)V" } : Jvm.MethodName) prog_9_method_1_code (3 : Nat) (Option.none : Option Jvm.ClassFile.FieldType)) ∈ pg_W := tb_1 (i := 41) rfl rfl
theorem pw1_42 : (Jvm.Cond.methodLink "SkyMargins$Table" (3 : Nat) ({ cls := "java/lang/Object", name := "<init>", desc := "()V" } : Jvm.MethodName)) ∈ pg_W := tb_1 (i := 42) rfl rfl
theorem pw1_43 : (Jvm.Cond.methodLink "SkyMargins$Table" (9 : Nat) ({ cls := "java/lang/Math", name := "max", desc := "(II)I" } : Jvm.MethodName)) ∈ pg_W := tb_1 (i := 43) rfl rfl
theorem pw1_46 : (Jvm.Cond.fieldLink "SkyMargins$Table" (24 : Nat) "SkyMargins$Table" "cells" "[I") ∈ pg_W := tb_1 (i := 46) rfl rfl
theorem pw1_47 : (Jvm.Cond.fieldLink "SkyMargins$Table" (21 : Nat) "SkyMargins$Table" "width" "I") ∈ pg_W := tb_1 (i := 47) rfl rfl
theorem pw1_48 : (Jvm.Cond.fieldLink "SkyMargins$Table" (15 : Nat) "SkyMargins$Table" "most" "I") ∈ pg_W := tb_1 (i := 48) rfl rfl
theorem pw1_49 : (Jvm.Cond.fieldLink "SkyMargins$Table" (28 : Nat) "SkyMargins$Table" "rows" "I") ∈ pg_W := tb_1 (i := 49) rfl rfl
theorem pw1_60 : (Jvm.Cond.classLink "SkyMargins$Shelf" (36 : Nat) "SkyMargins$Text") ∈ pg_W := tb_1 (i := 60) rfl rfl
theorem pw1_62 : (Jvm.Cond.methodLink "SkyMargins$Shelf" (46 : Nat) ({ cls := "SkyMargins$Table", name := "open", desc := "()I" } : Jvm.MethodName)) ∈ pg_W := tb_1 (i := 62) rfl rfl
theorem pw1_63 : (Jvm.Cond.instanceMethod ({ cls := "SkyMargins$Table", name := "open", desc := "()I" } : Jvm.MethodName)) ∈ pg_W := tb_1 (i := 63) rfl rfl
theorem pw1_64 : (Jvm.Cond.selects "SkyMargins$Table" ({ cls := "SkyMargins$Table", name := "open", desc := "()I" } : Jvm.MethodName) ({ cls := "SkyMargins$Table", name := "open", desc := "()I" } : Jvm.MethodName)) ∈ pg_W := tb_1 (i := 64) rfl rfl
theorem pw1_65 : (Jvm.Cond.code ({ cls := "SkyMargins$Table", name := "open", desc := "()I" } : Jvm.MethodName) prog_9_method_4_code (3 : Nat) (Option.some Jvm.ClassFile.FieldType.int)) ∈ pg_W := tb_1 (i := 65) rfl rfl
theorem pw1_66 : (Jvm.Cond.methodLink "SkyMargins$Table" (31 : Nat) ({ cls := "SkyMargins$Table", name := "put", desc := "(III)I" } : Jvm.MethodName)) ∈ pg_W := tb_1 (i := 66) rfl rfl
theorem pw1_67 : (Jvm.Cond.instanceMethod ({ cls := "SkyMargins$Table", name := "put", desc := "(III)I" } : Jvm.MethodName)) ∈ pg_W := tb_1 (i := 67) rfl rfl
theorem pw1_68 : (Jvm.Cond.selects "SkyMargins$Table" ({ cls := "SkyMargins$Table", name := "put", desc := "(III)I" } : Jvm.MethodName) ({ cls := "SkyMargins$Table", name := "put", desc := "(III)I" } : Jvm.MethodName)) ∈ pg_W := tb_1 (i := 68) rfl rfl
theorem pw1_69 : (Jvm.Cond.code ({ cls := "SkyMargins$Table", name := "put", desc := "(III)I" } : Jvm.MethodName) prog_9_method_6_code (6 : Nat) (Option.some Jvm.ClassFile.FieldType.int)) ∈ pg_W := tb_1 (i := 69) rfl rfl
theorem pw1_70 : (Jvm.Cond.methodLink "SkyMargins$Table" (35 : Nat) ({ cls := "SkyMargins$Table", name := "holds", desc := "(I)Z" } : Jvm.MethodName)) ∈ pg_W := tb_1 (i := 70) rfl rfl
theorem pw1_71 : (Jvm.Cond.instanceMethod ({ cls := "SkyMargins$Table", name := "holds", desc := "(I)Z" } : Jvm.MethodName)) ∈ pg_W := tb_1 (i := 71) rfl rfl
theorem pw1_72 : (Jvm.Cond.selects "SkyMargins$Table" ({ cls := "SkyMargins$Table", name := "holds", desc := "(I)Z" } : Jvm.MethodName) ({ cls := "SkyMargins$Table", name := "holds", desc := "(I)Z" } : Jvm.MethodName)) ∈ pg_W := tb_1 (i := 72) rfl rfl
theorem pw1_73 : (Jvm.Cond.code ({ cls := "SkyMargins$Table", name := "holds", desc := "(I)Z" } : Jvm.MethodName) prog_9_method_3_code (2 : Nat) (Option.some Jvm.ClassFile.FieldType.boolean)) ∈ pg_W := tb_1 (i := 73) rfl rfl
theorem pw1_74 : (Jvm.Cond.fieldLink "SkyMargins$Shelf" (14 : Nat) "SkyMargins$Shelf" "copies" "LSkyMargins$Table;") ∈ pg_W := tb_1 (i := 74) rfl rfl
theorem pw1_75 : (Jvm.Cond.fieldLink "SkyMargins" (91 : Nat) "SkyMargins$Shelf" "copies" "LSkyMargins$Table;") ∈ pg_W := tb_1 (i := 75) rfl rfl
theorem pw1_76 : (Jvm.Cond.fieldLink "SkyMargins$Asker" (49 : Nat) "SkyMargins$Shelf" "copies" "LSkyMargins$Table;") ∈ pg_W := tb_1 (i := 76) rfl rfl
theorem pw1_77 : (Jvm.Cond.fieldLink "SkyMargins$World" (37 : Nat) "SkyMargins$Shelf" "copies" "LSkyMargins$Table;") ∈ pg_W := tb_1 (i := 77) rfl rfl
theorem pw1_78 : (Jvm.Cond.fieldLink "SkyMargins$Stemma" (67 : Nat) "SkyMargins$Shelf" "copies" "LSkyMargins$Table;") ∈ pg_W := tb_1 (i := 78) rfl rfl
theorem pw1_79 : (Jvm.Cond.fieldLink "SkyMargins$Readings" (116 : Nat) "SkyMargins$Shelf" "copies" "LSkyMargins$Table;") ∈ pg_W := tb_1 (i := 79) rfl rfl
theorem pw1_80 : (Jvm.Cond.fieldLink "SkyMargins$Shelf" (20 : Nat) "SkyMargins$Shelf" "stays" "LSkyMargins$Table;") ∈ pg_W := tb_1 (i := 80) rfl rfl
theorem pw1_81 : (Jvm.Cond.fieldLink "SkyMargins" (119 : Nat) "SkyMargins$Shelf" "stays" "LSkyMargins$Table;") ∈ pg_W := tb_1 (i := 81) rfl rfl
theorem pw1_82 : (Jvm.Cond.fieldLink "SkyMargins$Shelf" (23 : Nat) "SkyMargins$Shelf" "hands" "LSkyMargins$Table;") ∈ pg_W := tb_1 (i := 82) rfl rfl
theorem pw1_83 : (Jvm.Cond.fieldLink "SkyMargins$Odds" (39 : Nat) "SkyMargins$Shelf" "hands" "LSkyMargins$Table;") ∈ pg_W := tb_1 (i := 83) rfl rfl
theorem pw1_84 : (Jvm.Cond.fieldLink "SkyMargins" (125 : Nat) "SkyMargins$Shelf" "hands" "LSkyMargins$Table;") ∈ pg_W := tb_1 (i := 84) rfl rfl
theorem pw1_85 : (Jvm.Cond.fieldLink "SkyMargins$Shelf" (26 : Nat) "SkyMargins$Shelf" "samples" "LSkyMargins$Table;") ∈ pg_W := tb_1 (i := 85) rfl rfl
theorem pw1_86 : (Jvm.Cond.fieldLink "SkyMargins$Odds" (58 : Nat) "SkyMargins$Shelf" "samples" "LSkyMargins$Table;") ∈ pg_W := tb_1 (i := 86) rfl rfl
theorem pw1_87 : (Jvm.Cond.fieldLink "SkyMargins" (128 : Nat) "SkyMargins$Shelf" "samples" "LSkyMargins$Table;") ∈ pg_W := tb_1 (i := 87) rfl rfl
theorem pw1_88 : (Jvm.Cond.fieldLink "SkyMargins$Shelf" (29 : Nat) "SkyMargins$Shelf" "notes" "LSkyMargins$Table;") ∈ pg_W := tb_1 (i := 88) rfl rfl
theorem pw1_89 : (Jvm.Cond.fieldLink "SkyMargins$Readings" (46 : Nat) "SkyMargins$Shelf" "notes" "LSkyMargins$Table;") ∈ pg_W := tb_1 (i := 89) rfl rfl
theorem pw1_90 : (Jvm.Cond.fieldLink "SkyMargins$Asker" (29 : Nat) "SkyMargins$Shelf" "notes" "LSkyMargins$Table;") ∈ pg_W := tb_1 (i := 90) rfl rfl
theorem pw1_91 : (Jvm.Cond.fieldLink "SkyMargins" (145 : Nat) "SkyMargins$Shelf" "notes" "LSkyMargins$Table;") ∈ pg_W := tb_1 (i := 91) rfl rfl
theorem pw1_92 : (Jvm.Cond.fieldLink "SkyMargins$Shelf" (32 : Nat) "SkyMargins$Shelf" "terms" "[I") ∈ pg_W := tb_1 (i := 92) rfl rfl
theorem pw1_93 : (Jvm.Cond.fieldLink "SkyMargins$Readings" (90 : Nat) "SkyMargins$Shelf" "terms" "[I") ∈ pg_W := tb_1 (i := 93) rfl rfl
theorem pw1_94 : (Jvm.Cond.fieldLink "SkyMargins" (166 : Nat) "SkyMargins$Shelf" "terms" "[I") ∈ pg_W := tb_1 (i := 94) rfl rfl
theorem pw1_95 : (Jvm.Cond.fieldLink "SkyMargins$Shelf" (38 : Nat) "SkyMargins$Shelf" "texts" "[LSkyMargins$Text;") ∈ pg_W := tb_1 (i := 95) rfl rfl
theorem pw1_96 : (Jvm.Cond.fieldLink "SkyMargins$Shelf" (60 : Nat) "SkyMargins$Shelf" "textCount" "I") ∈ pg_W := tb_1 (i := 96) rfl rfl
theorem pw1_97 : (Jvm.Cond.fieldLink "SkyMargins" (186 : Nat) "SkyMargins$Shelf" "textCount" "I") ∈ pg_W := tb_1 (i := 97) rfl rfl
theorem pw1_98 : (Jvm.Cond.fieldLink "SkyMargins$Shelf" (42 : Nat) "SkyMargins$Shelf" "used" "I") ∈ pg_W := tb_1 (i := 98) rfl rfl
theorem pw1_99 : (Jvm.Cond.fieldLink "SkyMargins" (204 : Nat) "SkyMargins$Shelf" "used" "I") ∈ pg_W := tb_1 (i := 99) rfl rfl
theorem pw1_120 : (Jvm.Cond.classLink "SkyMargins" (24 : Nat) "SkyMargins$Tape") ∈ pg_W := tb_1 (i := 120) rfl rfl
theorem pw1_121 : (Jvm.Cond.instantiable "SkyMargins$Tape" (2 : Nat)) ∈ pg_W := tb_1 (i := 121) rfl rfl
theorem pw1_122 : (Jvm.Cond.methodLinkNest "SkyMargins" (26 : Nat) ({ cls := "SkyMargins$Tape", name := "<init>", desc := "()V" } : Jvm.MethodName) "SkyMargins") ∈ lw_tbl := tc_1 (i := 122) rfl
theorem pw1_123 : (Jvm.Cond.instanceMethod ({ cls := "SkyMargins$Tape", name := "<init>", desc := "()V" } : Jvm.MethodName)) ∈ pg_W := tb_1 (i := 123) rfl rfl
theorem pw1_124 : (Jvm.Cond.code ({ cls := "SkyMargins$Tape", name := "<init>", desc := "()V" } : Jvm.MethodName) prog_10_method_1_code (1 : Nat) (Option.none : Option Jvm.ClassFile.FieldType)) ∈ pg_W := tb_1 (i := 124) rfl rfl
theorem pw1_125 : (Jvm.Cond.methodLink "SkyMargins$Tape" (3 : Nat) ({ cls := "java/lang/Object", name := "<init>", desc := "()V" } : Jvm.MethodName)) ∈ pg_W := tb_1 (i := 125) rfl rfl
theorem pw1_126 : (Jvm.Cond.fieldLink "SkyMargins$Tape" (9 : Nat) "SkyMargins$Tape" "bytes" "[I") ∈ pg_W := tb_1 (i := 126) rfl rfl
theorem pw1_127 : (Jvm.Cond.fieldLinkNest "SkyMargins$Parser" (126 : Nat) "SkyMargins$Tape" "bytes" "[I" "SkyMargins") ∈ lw_tbl := tc_1 (i := 127) rfl
theorem pw1_128 : (Jvm.Cond.fieldLink "SkyMargins$Tape" (15 : Nat) "SkyMargins$Tape" "size" "I") ∈ pg_W := tb_1 (i := 128) rfl rfl
theorem pw1_135 : (Jvm.Cond.classLink "SkyMargins" (31 : Nat) "SkyMargins$Parser") ∈ pg_W := tb_1 (i := 135) rfl rfl
theorem pw1_136 : (Jvm.Cond.instantiable "SkyMargins$Parser" (9 : Nat)) ∈ pg_W := tb_1 (i := 136) rfl rfl
theorem pw1_137 : (Jvm.Cond.methodLink "SkyMargins" (33 : Nat) ({ cls := "SkyMargins$Parser", name := "<init>", desc := "(LSkyMargins$Tape;)V" } : Jvm.MethodName)) ∈ pg_W := tb_1 (i := 137) rfl rfl
theorem pw1_138 : (Jvm.Cond.instanceMethod ({ cls := "SkyMargins$Parser", name := "<init>", desc := "(LSkyMargins$Tape;)V" } : Jvm.MethodName)) ∈ pg_W := tb_1 (i := 138) rfl rfl
theorem pw1_139 : (Jvm.Cond.code ({ cls := "SkyMargins$Parser", name := "<init>", desc := "(LSkyMargins$Tape;)V" } : Jvm.MethodName) prog_5_method_1_code (2 : Nat) (Option.none : Option Jvm.ClassFile.FieldType)) ∈ pg_W := tb_1 (i := 139) rfl rfl
theorem pw1_140 : (Jvm.Cond.methodLink "SkyMargins$Parser" (3 : Nat) ({ cls := "java/lang/Object", name := "<init>", desc := "()V" } : Jvm.MethodName)) ∈ pg_W := tb_1 (i := 140) rfl rfl
theorem pw1_141 : (Jvm.Cond.fieldLink "SkyMargins$Parser" (11 : Nat) "SkyMargins$Parser" "codes" "[I") ∈ pg_W := tb_1 (i := 141) rfl rfl
theorem pw1_142 : (Jvm.Cond.fieldLink "SkyMargins$Parser" (19 : Nat) "SkyMargins$Parser" "tape" "LSkyMargins$Tape;") ∈ pg_W := tb_1 (i := 142) rfl rfl
theorem pw1_143 : (Jvm.Cond.fieldLink "SkyMargins$Parser" (23 : Nat) "SkyMargins$Parser" "length" "I") ∈ pg_W := tb_1 (i := 143) rfl rfl
theorem pw1_144 : (Jvm.Cond.fieldLink "SkyMargins$Parser" (54 : Nat) "SkyMargins$Parser" "start" "I") ∈ pg_W := tb_1 (i := 144) rfl rfl
theorem pw1_145 : (Jvm.Cond.fieldLink "SkyMargins$Parser" (26 : Nat) "SkyMargins$Parser" "stop" "I") ∈ pg_W := tb_1 (i := 145) rfl rfl
theorem pw1_146 : (Jvm.Cond.fieldLink "SkyMargins$Parser" (42 : Nat) "SkyMargins$Parser" "token" "I") ∈ pg_W := tb_1 (i := 146) rfl rfl
theorem pw1_147 : (Jvm.Cond.fieldLink "SkyMargins$Parser" (89 : Nat) "SkyMargins$Parser" "value" "I") ∈ pg_W := tb_1 (i := 147) rfl rfl
theorem pw1_148 : (Jvm.Cond.fieldLink "SkyMargins$Parser" (29 : Nat) "SkyMargins$Parser" "parts" "I") ∈ pg_W := tb_1 (i := 148) rfl rfl
theorem pw1_149 : (Jvm.Cond.fieldLink "SkyMargins$Parser" (15 : Nat) "SkyMargins$Parser" "fault" "I") ∈ pg_W := tb_1 (i := 149) rfl rfl
theorem pw1_169 : (Jvm.Cond.classLink "SkyMargins" (40 : Nat) "SkyMargins$Asker") ∈ pg_W := tb_1 (i := 169) rfl rfl
theorem pw1_170 : (Jvm.Cond.instantiable "SkyMargins$Asker" (3 : Nat)) ∈ pg_W := tb_1 (i := 170) rfl rfl
theorem pw1_171 : (Jvm.Cond.methodLinkNest "SkyMargins" (42 : Nat) ({ cls := "SkyMargins$Asker", name := "<init>", desc := "()V" } : Jvm.MethodName) "SkyMargins") ∈ lw_tbl := tc_1 (i := 171) rfl
theorem pw1_172 : (Jvm.Cond.instanceMethod ({ cls := "SkyMargins$Asker", name := "<init>", desc := "()V" } : Jvm.MethodName)) ∈ pg_W := tb_1 (i := 172) rfl rfl
theorem pw1_173 : (Jvm.Cond.code ({ cls := "SkyMargins$Asker", name := "<init>", desc := "()V" } : Jvm.MethodName) prog_2_method_1_code (1 : Nat) (Option.none : Option Jvm.ClassFile.FieldType)) ∈ pg_W := tb_1 (i := 173) rfl rfl
theorem pw1_174 : (Jvm.Cond.methodLink "SkyMargins$Asker" (3 : Nat) ({ cls := "java/lang/Object", name := "<init>", desc := "()V" } : Jvm.MethodName)) ∈ pg_W := tb_1 (i := 174) rfl rfl
theorem pw1_175 : (Jvm.Cond.fieldLink "SkyMargins$Asker" (9 : Nat) "SkyMargins$Asker" "asked" "[I") ∈ pg_W := tb_1 (i := 175) rfl rfl
theorem pw1_176 : (Jvm.Cond.fieldLink "SkyMargins$Asker" (15 : Nat) "SkyMargins$Asker" "stack" "[J") ∈ pg_W := tb_1 (i := 176) rfl rfl
theorem pw1_177 : (Jvm.Cond.fieldLink "SkyMargins$Asker" (70 : Nat) "SkyMargins$Asker" "broken" "Z") ∈ pg_W := tb_1 (i := 177) rfl rfl
theorem pw1_186 : (Jvm.Cond.classLink "SkyMargins" (47 : Nat) "SkyMargins$Readings") ∈ pg_W := tb_1 (i := 186) rfl rfl
theorem pw1_187 : (Jvm.Cond.instantiable "SkyMargins$Readings" (9 : Nat)) ∈ pg_W := tb_1 (i := 187) rfl rfl
theorem pw1_188 : (Jvm.Cond.methodLinkNest "SkyMargins" (49 : Nat) ({ cls := "SkyMargins$Readings", name := "<init>", desc := "()V" } : Jvm.MethodName) "SkyMargins") ∈ lw_tbl := tc_1 (i := 188) rfl
theorem pw1_189 : (Jvm.Cond.instanceMethod ({ cls := "SkyMargins$Readings", name := "<init>", desc := "()V" } : Jvm.MethodName)) ∈ pg_W := tb_1 (i := 189) rfl rfl
theorem pw1_190 : (Jvm.Cond.code ({ cls := "SkyMargins$Readings", name := "<init>", desc := "()V" } : Jvm.MethodName) prog_6_method_1_code (1 : Nat) (Option.none : Option Jvm.ClassFile.FieldType)) ∈ pg_W := tb_1 (i := 190) rfl rfl
theorem pw1_191 : (Jvm.Cond.methodLink "SkyMargins$Readings" (3 : Nat) ({ cls := "java/lang/Object", name := "<init>", desc := "()V" } : Jvm.MethodName)) ∈ pg_W := tb_1 (i := 191) rfl rfl
theorem pw1_192 : (Jvm.Cond.fieldLink "SkyMargins$Readings" (9 : Nat) "SkyMargins$Readings" "places" "[I") ∈ pg_W := tb_1 (i := 192) rfl rfl
theorem pw1_193 : (Jvm.Cond.fieldLink "SkyMargins$Readings" (15 : Nat) "SkyMargins$Readings" "wordings" "[I") ∈ pg_W := tb_1 (i := 193) rfl rfl
theorem pw1_194 : (Jvm.Cond.fieldLink "SkyMargins$Readings" (18 : Nat) "SkyMargins$Readings" "holders" "[I") ∈ pg_W := tb_1 (i := 194) rfl rfl
theorem pw1_195 : (Jvm.Cond.fieldLink "SkyMargins$Readings" (21 : Nat) "SkyMargins$Readings" "weights" "[I") ∈ pg_W := tb_1 (i := 195) rfl rfl
theorem pw1_196 : (Jvm.Cond.fieldLink "SkyMargins$Readings" (24 : Nat) "SkyMargins$Readings" "firstAt" "[I") ∈ pg_W := tb_1 (i := 196) rfl rfl
theorem pw1_197 : (Jvm.Cond.fieldLink "SkyMargins$Readings" (27 : Nat) "SkyMargins$Readings" "after" "[I") ∈ pg_W := tb_1 (i := 197) rfl rfl
theorem pw1_198 : (Jvm.Cond.fieldLink "SkyMargins$Readings" (30 : Nat) "SkyMargins$Readings" "cutAt" "[I") ∈ pg_W := tb_1 (i := 198) rfl rfl
theorem pw1_199 : (Jvm.Cond.fieldLink "SkyMargins$Readings" (33 : Nat) "SkyMargins$Readings" "near" "[I") ∈ pg_W := tb_1 (i := 199) rfl rfl
theorem pw1_200 : (Jvm.Cond.fieldLink "SkyMargins$Readings" (36 : Nat) "SkyMargins$Readings" "size" "I") ∈ pg_W := tb_1 (i := 200) rfl rfl
theorem pw1_220 : (Jvm.Cond.classLink "SkyMargins" (54 : Nat) "SkyMargins$Stemma") ∈ pg_W := tb_1 (i := 220) rfl rfl
theorem pw1_221 : (Jvm.Cond.instantiable "SkyMargins$Stemma" (9 : Nat)) ∈ pg_W := tb_1 (i := 221) rfl rfl
theorem pw1_222 : (Jvm.Cond.methodLinkNest "SkyMargins" (56 : Nat) ({ cls := "SkyMargins$Stemma", name := "<init>", desc := "()V" } : Jvm.MethodName) "SkyMargins") ∈ lw_tbl := tc_1 (i := 222) rfl
theorem pw1_223 : (Jvm.Cond.instanceMethod ({ cls := "SkyMargins$Stemma", name := "<init>", desc := "()V" } : Jvm.MethodName)) ∈ pg_W := tb_1 (i := 223) rfl rfl
theorem pw1_224 : (Jvm.Cond.code ({ cls := "SkyMargins$Stemma", name := "<init>", desc := "()V" } : Jvm.MethodName) prog_8_method_1_code (1 : Nat) (Option.none : Option Jvm.ClassFile.FieldType)) ∈ pg_W := tb_1 (i := 224) rfl rfl
theorem pw1_225 : (Jvm.Cond.methodLink "SkyMargins$Stemma" (3 : Nat) ({ cls := "java/lang/Object", name := "<init>", desc := "()V" } : Jvm.MethodName)) ∈ pg_W := tb_1 (i := 225) rfl rfl
theorem pw1_226 : (Jvm.Cond.fieldLink "SkyMargins$Stemma" (11 : Nat) "SkyMargins$Stemma" "costs" "[I") ∈ pg_W := tb_1 (i := 226) rfl rfl
theorem pw1_227 : (Jvm.Cond.fieldLink "SkyMargins$Stemma" (15 : Nat) "SkyMargins$Stemma" "edges" "[J") ∈ pg_W := tb_1 (i := 227) rfl rfl
theorem pw1_228 : (Jvm.Cond.fieldLink "SkyMargins$Stemma" (19 : Nat) "SkyMargins$Stemma" "merged" "[J") ∈ pg_W := tb_1 (i := 228) rfl rfl
theorem pw1_229 : (Jvm.Cond.fieldLink "SkyMargins$Stemma" (22 : Nat) "SkyMargins$Stemma" "nearest" "[I") ∈ pg_W := tb_1 (i := 229) rfl rfl
theorem pw1_230 : (Jvm.Cond.fieldLink "SkyMargins$Stemma" (25 : Nat) "SkyMargins$Stemma" "group" "[I") ∈ pg_W := tb_1 (i := 230) rfl rfl
theorem pw1_231 : (Jvm.Cond.fieldLink "SkyMargins$Stemma" (28 : Nat) "SkyMargins$Stemma" "seen" "[I") ∈ pg_W := tb_1 (i := 231) rfl rfl
theorem pw1_232 : (Jvm.Cond.fieldLink "SkyMargins$Stemma" (31 : Nat) "SkyMargins$Stemma" "exemplars" "[I") ∈ pg_W := tb_1 (i := 232) rfl rfl
theorem pw1_233 : (Jvm.Cond.fieldLink "SkyMargins$Stemma" (48 : Nat) "SkyMargins$Stemma" "knots" "I") ∈ pg_W := tb_1 (i := 233) rfl rfl
theorem pw1_234 : (Jvm.Cond.fieldLink "SkyMargins$Stemma" (34 : Nat) "SkyMargins$Stemma" "least" "I") ∈ pg_W := tb_1 (i := 234) rfl rfl
theorem pw2_14 : (Jvm.Cond.classLink "SkyMargins" (61 : Nat) "SkyMargins$Odds") ∈ pg_W := tb_2 (i := 14) rfl rfl
theorem pw2_15 : (Jvm.Cond.instantiable "SkyMargins$Odds" (5 : Nat)) ∈ pg_W := tb_2 (i := 15) rfl rfl
theorem pw2_16 : (Jvm.Cond.methodLinkNest "SkyMargins" (63 : Nat) ({ cls := "SkyMargins$Odds", name := "<init>", desc := "()V" } : Jvm.MethodName) "SkyMargins") ∈ lw_tbl := tc_2 (i := 16) rfl
theorem pw2_17 : (Jvm.Cond.instanceMethod ({ cls := "SkyMargins$Odds", name := "<init>", desc := "()V" } : Jvm.MethodName)) ∈ pg_W := tb_2 (i := 17) rfl rfl
theorem pw2_18 : (Jvm.Cond.code ({ cls := "SkyMargins$Odds", name := "<init>", desc := "()V" } : Jvm.MethodName) prog_4_method_1_code (1 : Nat) (Option.none : Option Jvm.ClassFile.FieldType)) ∈ pg_W := tb_2 (i := 18) rfl rfl
theorem pw2_19 : (Jvm.Cond.methodLink "SkyMargins$Odds" (3 : Nat) ({ cls := "java/lang/Object", name := "<init>", desc := "()V" } : Jvm.MethodName)) ∈ pg_W := tb_2 (i := 19) rfl rfl
theorem pw2_20 : (Jvm.Cond.classLink "SkyMargins$Odds" (9 : Nat) "SkyMargins$Big") ∈ pg_W := tb_2 (i := 20) rfl rfl
theorem pw2_21 : (Jvm.Cond.instantiable "SkyMargins$Big" (2 : Nat)) ∈ pg_W := tb_2 (i := 21) rfl rfl
theorem pw2_22 : (Jvm.Cond.methodLinkNest "SkyMargins$Odds" (11 : Nat) ({ cls := "SkyMargins$Big", name := "<init>", desc := "()V" } : Jvm.MethodName) "SkyMargins") ∈ lw_tbl := tc_2 (i := 22) rfl
theorem pw2_23 : (Jvm.Cond.instanceMethod ({ cls := "SkyMargins$Big", name := "<init>", desc := "()V" } : Jvm.MethodName)) ∈ pg_W := tb_2 (i := 23) rfl rfl
theorem pw2_24 : (Jvm.Cond.code ({ cls := "SkyMargins$Big", name := "<init>", desc := "()V" } : Jvm.MethodName) prog_3_method_1_code (1 : Nat) (Option.none : Option Jvm.ClassFile.FieldType)) ∈ pg_W := tb_2 (i := 24) rfl rfl
theorem pw2_25 : (Jvm.Cond.methodLink "SkyMargins$Big" (3 : Nat) ({ cls := "java/lang/Object", name := "<init>", desc := "()V" } : Jvm.MethodName)) ∈ pg_W := tb_2 (i := 25) rfl rfl
theorem pw2_26 : (Jvm.Cond.fieldLink "SkyMargins$Big" (9 : Nat) "SkyMargins$Big" "limbs" "[J") ∈ pg_W := tb_2 (i := 26) rfl rfl
theorem pw2_27 : (Jvm.Cond.fieldLink "SkyMargins$Big" (13 : Nat) "SkyMargins$Big" "size" "I") ∈ pg_W := tb_2 (i := 27) rfl rfl
theorem pw2_33 : (Jvm.Cond.fieldLink "SkyMargins$Odds" (12 : Nat) "SkyMargins$Odds" "top" "LSkyMargins$Big;") ∈ pg_W := tb_2 (i := 33) rfl rfl
theorem pw2_34 : (Jvm.Cond.fieldLink "SkyMargins$Odds" (18 : Nat) "SkyMargins$Odds" "bottom" "LSkyMargins$Big;") ∈ pg_W := tb_2 (i := 34) rfl rfl
theorem pw2_35 : (Jvm.Cond.fieldLink "SkyMargins$Odds" (21 : Nat) "SkyMargins$Odds" "product" "LSkyMargins$Big;") ∈ pg_W := tb_2 (i := 35) rfl rfl
theorem pw2_36 : (Jvm.Cond.fieldLink "SkyMargins$Odds" (24 : Nat) "SkyMargins$Odds" "reads" "[I") ∈ pg_W := tb_2 (i := 36) rfl rfl
theorem pw2_37 : (Jvm.Cond.fieldLink "SkyMargins$Odds" (28 : Nat) "SkyMargins$Odds" "notes" "[I") ∈ pg_W := tb_2 (i := 37) rfl rfl
theorem pw2_49 : (Jvm.Cond.classLink "SkyMargins" (68 : Nat) "SkyMargins$World") ∈ pg_W := tb_2 (i := 49) rfl rfl
theorem pw2_50 : (Jvm.Cond.instantiable "SkyMargins$World" (6 : Nat)) ∈ pg_W := tb_2 (i := 50) rfl rfl
theorem pw2_51 : (Jvm.Cond.methodLinkNest "SkyMargins" (70 : Nat) ({ cls := "SkyMargins$World", name := "<init>", desc := "()V" } : Jvm.MethodName) "SkyMargins") ∈ lw_tbl := tc_2 (i := 51) rfl
theorem pw2_52 : (Jvm.Cond.instanceMethod ({ cls := "SkyMargins$World", name := "<init>", desc := "()V" } : Jvm.MethodName)) ∈ pg_W := tb_2 (i := 52) rfl rfl
theorem pw2_53 : (Jvm.Cond.code ({ cls := "SkyMargins$World", name := "<init>", desc := "()V" } : Jvm.MethodName) prog_12_method_1_code (1 : Nat) (Option.none : Option Jvm.ClassFile.FieldType)) ∈ pg_W := tb_2 (i := 53) rfl rfl
theorem pw2_54 : (Jvm.Cond.methodLink "SkyMargins$World" (3 : Nat) ({ cls := "java/lang/Object", name := "<init>", desc := "()V" } : Jvm.MethodName)) ∈ pg_W := tb_2 (i := 54) rfl rfl
theorem pw2_55 : (Jvm.Cond.fieldLink "SkyMargins$World" (11 : Nat) "SkyMargins$World" "held" "[I") ∈ pg_W := tb_2 (i := 55) rfl rfl
theorem pw2_56 : (Jvm.Cond.fieldLink "SkyMargins$World" (15 : Nat) "SkyMargins$World" "sizes" "[I") ∈ pg_W := tb_2 (i := 56) rfl rfl
theorem pw2_57 : (Jvm.Cond.fieldLink "SkyMargins$World" (18 : Nat) "SkyMargins$World" "copied" "[I") ∈ pg_W := tb_2 (i := 57) rfl rfl
theorem pw2_58 : (Jvm.Cond.fieldLink "SkyMargins$World" (21 : Nat) "SkyMargins$World" "copies" "I") ∈ pg_W := tb_2 (i := 58) rfl rfl
theorem pw2_59 : (Jvm.Cond.fieldLink "SkyMargins$World" (48 : Nat) "SkyMargins$World" "newest" "I") ∈ pg_W := tb_2 (i := 59) rfl rfl
theorem pw2_60 : (Jvm.Cond.fieldLink "SkyMargins$World" (51 : Nat) "SkyMargins$World" "state" "J") ∈ pg_W := tb_2 (i := 60) rfl rfl
theorem pw2_74 : (Jvm.Cond.fieldLink "SkyMargins" (10 : Nat) "SkyMargins" "now" "LSkyMargins$Shelf;") ∈ pg_W := tb_2 (i := 74) rfl rfl
theorem pw2_75 : (Jvm.Cond.fieldLink "SkyMargins" (16 : Nat) "SkyMargins" "images" "[LSkyMargins$Shelf;") ∈ pg_W := tb_2 (i := 75) rfl rfl
theorem pw2_76 : (Jvm.Cond.fieldLink "SkyMargins" (20 : Nat) "SkyMargins" "imageKept" "[Z") ∈ pg_W := tb_2 (i := 76) rfl rfl
theorem pw2_77 : (Jvm.Cond.fieldLink "SkyMargins" (27 : Nat) "SkyMargins" "tape" "LSkyMargins$Tape;") ∈ pg_W := tb_2 (i := 77) rfl rfl
theorem pw2_78 : (Jvm.Cond.fieldLink "SkyMargins" (36 : Nat) "SkyMargins" "parser" "LSkyMargins$Parser;") ∈ pg_W := tb_2 (i := 78) rfl rfl
theorem pw2_79 : (Jvm.Cond.fieldLink "SkyMargins" (43 : Nat) "SkyMargins" "asker" "LSkyMargins$Asker;") ∈ pg_W := tb_2 (i := 79) rfl rfl
theorem pw2_80 : (Jvm.Cond.fieldLink "SkyMargins" (50 : Nat) "SkyMargins" "readings" "LSkyMargins$Readings;") ∈ pg_W := tb_2 (i := 80) rfl rfl
theorem pw2_81 : (Jvm.Cond.fieldLink "SkyMargins" (57 : Nat) "SkyMargins" "stemma" "LSkyMargins$Stemma;") ∈ pg_W := tb_2 (i := 81) rfl rfl
theorem pw2_82 : (Jvm.Cond.fieldLink "SkyMargins" (64 : Nat) "SkyMargins" "odds" "LSkyMargins$Odds;") ∈ pg_W := tb_2 (i := 82) rfl rfl
theorem pw2_83 : (Jvm.Cond.fieldLink "SkyMargins" (71 : Nat) "SkyMargins" "latest" "LSkyMargins$World;") ∈ pg_W := tb_2 (i := 83) rfl rfl
theorem pw2_84 : (Jvm.Cond.fieldLink "SkyMargins" (75 : Nat) "SkyMargins" "refused" "[I") ∈ pg_W := tb_2 (i := 84) rfl rfl
theorem pw2_85 : (Jvm.Cond.fieldLink "SkyMargins" (359 : Nat) "SkyMargins" "latestStatus" "I") ∈ pg_W := tb_2 (i := 85) rfl rfl
theorem pw2_86 : (Jvm.Cond.fieldLink "SkyMargins" (183 : Nat) "SkyMargins" "latestTrimmed" "I") ∈ pg_W := tb_2 (i := 86) rfl rfl
theorem pw2_87 : (Jvm.Cond.fieldLink "SkyMargins" (79 : Nat) "SkyMargins" "latestFault" "I") ∈ pg_W := tb_2 (i := 87) rfl rfl
theorem pw2_88 : (Jvm.Cond.fieldLink "SkyMargins" (362 : Nat) "SkyMargins" "readingsFresh" "Z") ∈ pg_W := tb_2 (i := 88) rfl rfl
theorem pw2_89 : (Jvm.Cond.fieldLink "SkyMargins" (366 : Nat) "SkyMargins" "stemmaFresh" "Z") ∈ pg_W := tb_2 (i := 89) rfl rfl
theorem pw2_123 : (Jvm.Cond.methodLink "SkyMarginsLaw" (13 : Nat) ({ cls := "SkyMargins", name := "copy", desc := "(II)I" } : Jvm.MethodName)) ∈ pg_W := tb_2 (i := 123) rfl rfl
theorem pw2_124 : (Jvm.Cond.instanceMethod ({ cls := "SkyMargins", name := "copy", desc := "(II)I" } : Jvm.MethodName)) ∈ pg_W := tb_2 (i := 124) rfl rfl
theorem pw2_125 : (Jvm.Cond.selects "SkyMargins" ({ cls := "SkyMargins", name := "copy", desc := "(II)I" } : Jvm.MethodName) ({ cls := "SkyMargins", name := "copy", desc := "(II)I" } : Jvm.MethodName)) ∈ pg_W := tb_2 (i := 125) rfl rfl
theorem pw2_126 : (Jvm.Cond.code ({ cls := "SkyMargins", name := "copy", desc := "(II)I" } : Jvm.MethodName) prog_1_method_2_code (4 : Nat) (Option.some Jvm.ClassFile.FieldType.int)) ∈ pg_W := tb_2 (i := 126) rfl rfl
theorem pw2_127 : (Jvm.Cond.methodLink "SkyMargins" (83 : Nat) ({ cls := "SkyMargins", name := "within", desc := "(III)Z" } : Jvm.MethodName)) ∈ pg_W := tb_2 (i := 127) rfl rfl
theorem pw2_128 : (Jvm.Cond.static ({ cls := "SkyMargins", name := "within", desc := "(III)Z" } : Jvm.MethodName)) ∈ pg_W := tb_2 (i := 128) rfl rfl
theorem pw2_129 : (Jvm.Cond.code ({ cls := "SkyMargins", name := "within", desc := "(III)Z" } : Jvm.MethodName) prog_1_method_58_code (3 : Nat) (Option.some Jvm.ClassFile.FieldType.boolean)) ∈ pg_W := tb_2 (i := 129) rfl rfl
theorem pw2_130 : (Jvm.Cond.methodLink "SkyMargins" (87 : Nat) ({ cls := "SkyMargins", name := "refuse", desc := "(I)I" } : Jvm.MethodName)) ∈ pg_W := tb_2 (i := 130) rfl rfl
theorem pw2_132 : (Jvm.Cond.instanceMethod ({ cls := "SkyMargins", name := "refuse", desc := "(I)I" } : Jvm.MethodName)) ∈ pg_W := tb_2 (i := 132) rfl rfl
theorem pw2_133 : (Jvm.Cond.code ({ cls := "SkyMargins", name := "refuse", desc := "(I)I" } : Jvm.MethodName) prog_1_method_47_code (2 : Nat) (Option.some Jvm.ClassFile.FieldType.int)) ∈ pg_W := tb_2 (i := 133) rfl rfl
theorem pw2_134 : (Jvm.Cond.methodLink "SkyMargins" (95 : Nat) ({ cls := "SkyMargins$Table", name := "open", desc := "()I" } : Jvm.MethodName)) ∈ pg_W := tb_2 (i := 134) rfl rfl
theorem pw2_135 : (Jvm.Cond.methodLink "SkyMargins" (101 : Nat) ({ cls := "SkyMargins$Table", name := "put", desc := "(III)I" } : Jvm.MethodName)) ∈ pg_W := tb_2 (i := 135) rfl rfl
theorem pw2_136 : (Jvm.Cond.methodLink "SkyMargins" (105 : Nat) ({ cls := "SkyMargins", name := "changed", desc := "(I)I" } : Jvm.MethodName)) ∈ pg_W := tb_2 (i := 136) rfl rfl
theorem pw2_138 : (Jvm.Cond.instanceMethod ({ cls := "SkyMargins", name := "changed", desc := "(I)I" } : Jvm.MethodName)) ∈ pg_W := tb_2 (i := 138) rfl rfl
theorem pw2_139 : (Jvm.Cond.code ({ cls := "SkyMargins", name := "changed", desc := "(I)I" } : Jvm.MethodName) prog_1_method_49_code (2 : Nat) (Option.some Jvm.ClassFile.FieldType.int)) ∈ pg_W := tb_2 (i := 139) rfl rfl
theorem pw2_140 : (Jvm.Cond.methodLink "SkyMargins" (112 : Nat) ({ cls := "SkyMargins", name := "accept", desc := "(I)I" } : Jvm.MethodName)) ∈ pg_W := tb_2 (i := 140) rfl rfl
theorem pw2_142 : (Jvm.Cond.instanceMethod ({ cls := "SkyMargins", name := "accept", desc := "(I)I" } : Jvm.MethodName)) ∈ pg_W := tb_2 (i := 142) rfl rfl
theorem pw2_143 : (Jvm.Cond.code ({ cls := "SkyMargins", name := "accept", desc := "(I)I" } : Jvm.MethodName) prog_1_method_48_code (2 : Nat) (Option.some Jvm.ClassFile.FieldType.int)) ∈ pg_W := tb_2 (i := 143) rfl rfl
theorem pw2_144 : (Jvm.Cond.methodLink "SkyMarginsLaw" (18 : Nat) ({ cls := "SkyMargins", name := "look", desc := "(II)I" } : Jvm.MethodName)) ∈ pg_W := tb_2 (i := 144) rfl rfl
theorem pw2_145 : (Jvm.Cond.instanceMethod ({ cls := "SkyMargins", name := "look", desc := "(II)I" } : Jvm.MethodName)) ∈ pg_W := tb_2 (i := 145) rfl rfl
theorem pw2_146 : (Jvm.Cond.selects "SkyMargins" ({ cls := "SkyMargins", name := "look", desc := "(II)I" } : Jvm.MethodName) ({ cls := "SkyMargins", name := "look", desc := "(II)I" } : Jvm.MethodName)) ∈ pg_W := tb_2 (i := 146) rfl rfl
theorem pw2_147 : (Jvm.Cond.code ({ cls := "SkyMargins", name := "look", desc := "(II)I" } : Jvm.MethodName) prog_1_method_3_code (3 : Nat) (Option.some Jvm.ClassFile.FieldType.int)) ∈ pg_W := tb_2 (i := 147) rfl rfl
theorem pw2_148 : (Jvm.Cond.methodLink "SkyMargins" (108 : Nat) ({ cls := "SkyMargins$Table", name := "holds", desc := "(I)Z" } : Jvm.MethodName)) ∈ pg_W := tb_2 (i := 148) rfl rfl
theorem pw2_149 : (Jvm.Cond.methodLink "SkyMarginsLaw" (22 : Nat) ({ cls := "SkyMargins", name := "stay", desc := "(IIII)I" } : Jvm.MethodName)) ∈ pg_W := tb_2 (i := 149) rfl rfl
theorem pw2_150 : (Jvm.Cond.instanceMethod ({ cls := "SkyMargins", name := "stay", desc := "(IIII)I" } : Jvm.MethodName)) ∈ pg_W := tb_2 (i := 150) rfl rfl
theorem pw2_151 : (Jvm.Cond.selects "SkyMargins" ({ cls := "SkyMargins", name := "stay", desc := "(IIII)I" } : Jvm.MethodName) ({ cls := "SkyMargins", name := "stay", desc := "(IIII)I" } : Jvm.MethodName)) ∈ pg_W := tb_2 (i := 151) rfl rfl
theorem pw2_152 : (Jvm.Cond.code ({ cls := "SkyMargins", name := "stay", desc := "(IIII)I" } : Jvm.MethodName) prog_1_method_4_code (6 : Nat) (Option.some Jvm.ClassFile.FieldType.int)) ∈ pg_W := tb_2 (i := 152) rfl rfl
theorem pw2_153 : (Jvm.Cond.methodLink "SkyMargins" (115 : Nat) ({ cls := "SkyMargins", name := "areYears", desc := "(II)Z" } : Jvm.MethodName)) ∈ pg_W := tb_2 (i := 153) rfl rfl
theorem pw2_154 : (Jvm.Cond.static ({ cls := "SkyMargins", name := "areYears", desc := "(II)Z" } : Jvm.MethodName)) ∈ pg_W := tb_2 (i := 154) rfl rfl
theorem pw2_155 : (Jvm.Cond.code ({ cls := "SkyMargins", name := "areYears", desc := "(II)Z" } : Jvm.MethodName) prog_1_method_59_code (2 : Nat) (Option.some Jvm.ClassFile.FieldType.boolean)) ∈ pg_W := tb_2 (i := 155) rfl rfl
theorem pw2_156 : (Jvm.Cond.methodLink "SkyMargins" (122 : Nat) ({ cls := "SkyMargins$Table", name := "size", desc := "()I" } : Jvm.MethodName)) ∈ pg_W := tb_2 (i := 156) rfl rfl
theorem pw2_157 : (Jvm.Cond.instanceMethod ({ cls := "SkyMargins$Table", name := "size", desc := "()I" } : Jvm.MethodName)) ∈ pg_W := tb_2 (i := 157) rfl rfl
theorem pw2_158 : (Jvm.Cond.selects "SkyMargins$Table" ({ cls := "SkyMargins$Table", name := "size", desc := "()I" } : Jvm.MethodName) ({ cls := "SkyMargins$Table", name := "size", desc := "()I" } : Jvm.MethodName)) ∈ pg_W := tb_2 (i := 158) rfl rfl
theorem pw2_159 : (Jvm.Cond.code ({ cls := "SkyMargins$Table", name := "size", desc := "()I" } : Jvm.MethodName) prog_9_method_2_code (1 : Nat) (Option.some Jvm.ClassFile.FieldType.int)) ∈ pg_W := tb_2 (i := 159) rfl rfl
theorem pw2_160 : (Jvm.Cond.methodLink "SkyMarginsLaw" (27 : Nat) ({ cls := "SkyMargins", name := "hand", desc := "(II)I" } : Jvm.MethodName)) ∈ pg_W := tb_2 (i := 160) rfl rfl
theorem pw2_161 : (Jvm.Cond.instanceMethod ({ cls := "SkyMargins", name := "hand", desc := "(II)I" } : Jvm.MethodName)) ∈ pg_W := tb_2 (i := 161) rfl rfl
theorem pw2_162 : (Jvm.Cond.selects "SkyMargins" ({ cls := "SkyMargins", name := "hand", desc := "(II)I" } : Jvm.MethodName) ({ cls := "SkyMargins", name := "hand", desc := "(II)I" } : Jvm.MethodName)) ∈ pg_W := tb_2 (i := 162) rfl rfl
theorem pw2_163 : (Jvm.Cond.code ({ cls := "SkyMargins", name := "hand", desc := "(II)I" } : Jvm.MethodName) prog_1_method_5_code (4 : Nat) (Option.some Jvm.ClassFile.FieldType.int)) ∈ pg_W := tb_2 (i := 163) rfl rfl
theorem pw2_164 : (Jvm.Cond.methodLink "SkyMarginsLaw" (31 : Nat) ({ cls := "SkyMargins", name := "form", desc := "(III)I" } : Jvm.MethodName)) ∈ pg_W := tb_2 (i := 164) rfl rfl
theorem pw2_165 : (Jvm.Cond.instanceMethod ({ cls := "SkyMargins", name := "form", desc := "(III)I" } : Jvm.MethodName)) ∈ pg_W := tb_2 (i := 165) rfl rfl
theorem pw2_166 : (Jvm.Cond.selects "SkyMargins" ({ cls := "SkyMargins", name := "form", desc := "(III)I" } : Jvm.MethodName) ({ cls := "SkyMargins", name := "form", desc := "(III)I" } : Jvm.MethodName)) ∈ pg_W := tb_2 (i := 166) rfl rfl
theorem pw2_167 : (Jvm.Cond.code ({ cls := "SkyMargins", name := "form", desc := "(III)I" } : Jvm.MethodName) prog_1_method_6_code (4 : Nat) (Option.some Jvm.ClassFile.FieldType.int)) ∈ pg_W := tb_2 (i := 167) rfl rfl
theorem pw2_168 : (Jvm.Cond.methodLink "SkyMarginsLaw" (36 : Nat) ({ cls := "SkyMargins", name := "sample", desc := "(III)I" } : Jvm.MethodName)) ∈ pg_W := tb_2 (i := 168) rfl rfl
theorem pw2_169 : (Jvm.Cond.instanceMethod ({ cls := "SkyMargins", name := "sample", desc := "(III)I" } : Jvm.MethodName)) ∈ pg_W := tb_2 (i := 169) rfl rfl
theorem pw2_170 : (Jvm.Cond.selects "SkyMargins" ({ cls := "SkyMargins", name := "sample", desc := "(III)I" } : Jvm.MethodName) ({ cls := "SkyMargins", name := "sample", desc := "(III)I" } : Jvm.MethodName)) ∈ pg_W := tb_2 (i := 170) rfl rfl
theorem pw2_171 : (Jvm.Cond.code ({ cls := "SkyMargins", name := "sample", desc := "(III)I" } : Jvm.MethodName) prog_1_method_7_code (4 : Nat) (Option.some Jvm.ClassFile.FieldType.int)) ∈ pg_W := tb_2 (i := 171) rfl rfl
theorem pw2_172 : (Jvm.Cond.methodLink "SkyMarginsLaw" (40 : Nat) ({ cls := "SkyMargins", name := "note", desc := "(IIIII)I" } : Jvm.MethodName)) ∈ pg_W := tb_2 (i := 172) rfl rfl
theorem pw2_173 : (Jvm.Cond.instanceMethod ({ cls := "SkyMargins", name := "note", desc := "(IIIII)I" } : Jvm.MethodName)) ∈ pg_W := tb_2 (i := 173) rfl rfl
theorem pw2_174 : (Jvm.Cond.selects "SkyMargins" ({ cls := "SkyMargins", name := "note", desc := "(IIIII)I" } : Jvm.MethodName) ({ cls := "SkyMargins", name := "note", desc := "(IIIII)I" } : Jvm.MethodName)) ∈ pg_W := tb_2 (i := 174) rfl rfl
theorem pw2_175 : (Jvm.Cond.code ({ cls := "SkyMargins", name := "note", desc := "(IIIII)I" } : Jvm.MethodName) prog_1_method_8_code (7 : Nat) (Option.some Jvm.ClassFile.FieldType.int)) ∈ pg_W := tb_2 (i := 175) rfl rfl
theorem pw2_176 : (Jvm.Cond.methodLink "SkyMargins" (131 : Nat) ({ cls := "SkyMargins", name := "isNote", desc := "(III)Z" } : Jvm.MethodName)) ∈ pg_W := tb_2 (i := 176) rfl rfl
theorem pw2_177 : (Jvm.Cond.static ({ cls := "SkyMargins", name := "isNote", desc := "(III)Z" } : Jvm.MethodName)) ∈ pg_W := tb_2 (i := 177) rfl rfl
theorem pw2_178 : (Jvm.Cond.code ({ cls := "SkyMargins", name := "isNote", desc := "(III)Z" } : Jvm.MethodName) prog_1_method_60_code (3 : Nat) (Option.some Jvm.ClassFile.FieldType.boolean)) ∈ pg_W := tb_2 (i := 178) rfl rfl
theorem pw2_179 : (Jvm.Cond.methodLink "SkyMargins" (134 : Nat) ({ cls := "SkyMargins$Shelf", name := "isHandOrUnknown", desc := "(I)Z" } : Jvm.MethodName)) ∈ pg_W := tb_2 (i := 179) rfl rfl
theorem pw2_180 : (Jvm.Cond.instanceMethod ({ cls := "SkyMargins$Shelf", name := "isHandOrUnknown", desc := "(I)Z" } : Jvm.MethodName)) ∈ pg_W := tb_2 (i := 180) rfl rfl
theorem pw2_181 : (Jvm.Cond.selects "SkyMargins$Shelf" ({ cls := "SkyMargins$Shelf", name := "isHandOrUnknown", desc := "(I)Z" } : Jvm.MethodName) ({ cls := "SkyMargins$Shelf", name := "isHandOrUnknown", desc := "(I)Z" } : Jvm.MethodName)) ∈ pg_W := tb_2 (i := 181) rfl rfl
theorem pw2_182 : (Jvm.Cond.code ({ cls := "SkyMargins$Shelf", name := "isHandOrUnknown", desc := "(I)Z" } : Jvm.MethodName) prog_7_method_8_code (2 : Nat) (Option.some Jvm.ClassFile.FieldType.boolean)) ∈ pg_W := tb_2 (i := 182) rfl rfl
theorem pw2_183 : (Jvm.Cond.methodLink "SkyMargins$Shelf" (74 : Nat) ({ cls := "SkyMargins$Table", name := "holds", desc := "(I)Z" } : Jvm.MethodName)) ∈ pg_W := tb_2 (i := 183) rfl rfl
theorem pw2_184 : (Jvm.Cond.methodLink "SkyMargins" (137 : Nat) ({ cls := "SkyMargins$Shelf", name := "hasNote", desc := "(IIII)Z" } : Jvm.MethodName)) ∈ pg_W := tb_2 (i := 184) rfl rfl
theorem pw2_185 : (Jvm.Cond.instanceMethod ({ cls := "SkyMargins$Shelf", name := "hasNote", desc := "(IIII)Z" } : Jvm.MethodName)) ∈ pg_W := tb_2 (i := 185) rfl rfl
theorem pw2_186 : (Jvm.Cond.selects "SkyMargins$Shelf" ({ cls := "SkyMargins$Shelf", name := "hasNote", desc := "(IIII)Z" } : Jvm.MethodName) ({ cls := "SkyMargins$Shelf", name := "hasNote", desc := "(IIII)Z" } : Jvm.MethodName)) ∈ pg_W := tb_2 (i := 186) rfl rfl
theorem pw2_187 : (Jvm.Cond.code ({ cls := "SkyMargins$Shelf", name := "hasNote", desc := "(IIII)Z" } : Jvm.MethodName) prog_7_method_9_code (6 : Nat) (Option.some Jvm.ClassFile.FieldType.boolean)) ∈ pg_W := tb_2 (i := 187) rfl rfl
theorem pw2_188 : (Jvm.Cond.methodLink "SkyMargins$Shelf" (67 : Nat) ({ cls := "SkyMargins$Table", name := "size", desc := "()I" } : Jvm.MethodName)) ∈ pg_W := tb_2 (i := 188) rfl rfl
theorem pw2_189 : (Jvm.Cond.methodLink "SkyMargins$Shelf" (70 : Nat) ({ cls := "SkyMargins$Table", name := "at", desc := "(II)I" } : Jvm.MethodName)) ∈ pg_W := tb_2 (i := 189) rfl rfl
theorem pw2_190 : (Jvm.Cond.instanceMethod ({ cls := "SkyMargins$Table", name := "at", desc := "(II)I" } : Jvm.MethodName)) ∈ pg_W := tb_2 (i := 190) rfl rfl
theorem pw2_191 : (Jvm.Cond.selects "SkyMargins$Table" ({ cls := "SkyMargins$Table", name := "at", desc := "(II)I" } : Jvm.MethodName) ({ cls := "SkyMargins$Table", name := "at", desc := "(II)I" } : Jvm.MethodName)) ∈ pg_W := tb_2 (i := 191) rfl rfl
theorem pw2_192 : (Jvm.Cond.code ({ cls := "SkyMargins$Table", name := "at", desc := "(II)I" } : Jvm.MethodName) prog_9_method_5_code (3 : Nat) (Option.some Jvm.ClassFile.FieldType.int)) ∈ pg_W := tb_2 (i := 192) rfl rfl
theorem pw2_193 : (Jvm.Cond.methodLink "SkyMargins" (141 : Nat) ({ cls := "SkyMargins$Shelf", name := "addNote", desc := "(IIIII)I" } : Jvm.MethodName)) ∈ pg_W := tb_2 (i := 193) rfl rfl
theorem pw2_194 : (Jvm.Cond.instanceMethod ({ cls := "SkyMargins$Shelf", name := "addNote", desc := "(IIIII)I" } : Jvm.MethodName)) ∈ pg_W := tb_2 (i := 194) rfl rfl
theorem pw2_195 : (Jvm.Cond.selects "SkyMargins$Shelf" ({ cls := "SkyMargins$Shelf", name := "addNote", desc := "(IIIII)I" } : Jvm.MethodName) ({ cls := "SkyMargins$Shelf", name := "addNote", desc := "(IIIII)I" } : Jvm.MethodName)) ∈ pg_W := tb_2 (i := 195) rfl rfl
theorem pw2_196 : (Jvm.Cond.code ({ cls := "SkyMargins$Shelf", name := "addNote", desc := "(IIIII)I" } : Jvm.MethodName) prog_7_method_10_code (7 : Nat) (Option.some Jvm.ClassFile.FieldType.int)) ∈ pg_W := tb_2 (i := 196) rfl rfl
theorem pw2_197 : (Jvm.Cond.methodLink "SkyMargins$Shelf" (78 : Nat) ({ cls := "SkyMargins$Table", name := "put", desc := "(III)I" } : Jvm.MethodName)) ∈ pg_W := tb_2 (i := 197) rfl rfl
theorem pw2_198 : (Jvm.Cond.methodLink "SkyMarginsLaw" (45 : Nat) ({ cls := "SkyMargins", name := "of", desc := "(II)I" } : Jvm.MethodName)) ∈ pg_W := tb_2 (i := 198) rfl rfl
theorem pw2_199 : (Jvm.Cond.instanceMethod ({ cls := "SkyMargins", name := "of", desc := "(II)I" } : Jvm.MethodName)) ∈ pg_W := tb_2 (i := 199) rfl rfl
theorem pw2_200 : (Jvm.Cond.selects "SkyMargins" ({ cls := "SkyMargins", name := "of", desc := "(II)I" } : Jvm.MethodName) ({ cls := "SkyMargins", name := "of", desc := "(II)I" } : Jvm.MethodName)) ∈ pg_W := tb_2 (i := 200) rfl rfl
theorem pw2_201 : (Jvm.Cond.code ({ cls := "SkyMargins", name := "of", desc := "(II)I" } : Jvm.MethodName) prog_1_method_9_code (3 : Nat) (Option.some Jvm.ClassFile.FieldType.int)) ∈ pg_W := tb_2 (i := 201) rfl rfl
theorem pw2_202 : (Jvm.Cond.methodLink "SkyMargins" (148 : Nat) ({ cls := "SkyMargins", name := "freshReadings", desc := "()LSkyMargins$Readings;" } : Jvm.MethodName)) ∈ pg_W := tb_2 (i := 202) rfl rfl
theorem pw2_204 : (Jvm.Cond.instanceMethod ({ cls := "SkyMargins", name := "freshReadings", desc := "()LSkyMargins$Readings;" } : Jvm.MethodName)) ∈ pg_W := tb_2 (i := 204) rfl rfl
theorem pw2_205 : (Jvm.Cond.code ({ cls := "SkyMargins", name := "freshReadings", desc := "()LSkyMargins$Readings;" } : Jvm.MethodName) prog_1_method_50_code (1 : Nat) (Option.some (Jvm.ClassFile.FieldType.object "SkyMargins$Readings"))) ∈ pg_W := tb_2 (i := 205) rfl rfl
theorem pw2_206 : (Jvm.Cond.methodLink "SkyMargins" (369 : Nat) ({ cls := "SkyMargins$Readings", name := "gather", desc := "(LSkyMargins$Shelf;LSkyMargins$Asker;)V" } : Jvm.MethodName)) ∈ pg_W := tb_2 (i := 206) rfl rfl
theorem pw2_207 : (Jvm.Cond.instanceMethod ({ cls := "SkyMargins$Readings", name := "gather", desc := "(LSkyMargins$Shelf;LSkyMargins$Asker;)V" } : Jvm.MethodName)) ∈ pg_W := tb_2 (i := 207) rfl rfl
theorem pw2_208 : (Jvm.Cond.selects "SkyMargins$Readings" ({ cls := "SkyMargins$Readings", name := "gather", desc := "(LSkyMargins$Shelf;LSkyMargins$Asker;)V" } : Jvm.MethodName) ({ cls := "SkyMargins$Readings", name := "gather", desc := "(LSkyMargins$Shelf;LSkyMargins$Asker;)V" } : Jvm.MethodName)) ∈ pg_W := tb_2 (i := 208) rfl rfl
theorem pw2_209 : (Jvm.Cond.code ({ cls := "SkyMargins$Readings", name := "gather", desc := "(LSkyMargins$Shelf;LSkyMargins$Asker;)V" } : Jvm.MethodName) prog_6_method_2_code (7 : Nat) (Option.none : Option Jvm.ClassFile.FieldType)) ∈ pg_W := tb_2 (i := 209) rfl rfl
theorem pw2_210 : (Jvm.Cond.methodLink "SkyMargins$Readings" (40 : Nat) ({ cls := "java/util/Arrays", name := "fill", desc := "([II)V" } : Jvm.MethodName)) ∈ pg_W := tb_2 (i := 210) rfl rfl
theorem pw2_211 : (Jvm.Cond.static ({ cls := "java/util/Arrays", name := "fill", desc := "([II)V" } : Jvm.MethodName)) ∈ pg_W := tb_2 (i := 211) rfl rfl
theorem pw2_212 : (Jvm.Cond.code ({ cls := "java/util/Arrays", name := "fill", desc := "([II)V" } : Jvm.MethodName) prog_23_method_103_code (4 : Nat) (Option.none : Option Jvm.ClassFile.FieldType)) ∈ pg_W := tb_2 (i := 212) rfl rfl
theorem pw2_213 : (Jvm.Cond.methodLink "SkyMargins$Readings" (52 : Nat) ({ cls := "SkyMargins$Table", name := "size", desc := "()I" } : Jvm.MethodName)) ∈ pg_W := tb_2 (i := 213) rfl rfl
theorem pw2_214 : (Jvm.Cond.methodLink "SkyMargins$Readings" (57 : Nat) ({ cls := "SkyMargins$Table", name := "at", desc := "(II)I" } : Jvm.MethodName)) ∈ pg_W := tb_2 (i := 214) rfl rfl
theorem pw2_215 : (Jvm.Cond.methodLink "SkyMargins$Readings" (61 : Nat) ({ cls := "SkyMargins$Readings", name := "addHolder", desc := "(III)V" } : Jvm.MethodName)) ∈ pg_W := tb_2 (i := 215) rfl rfl
theorem pw2_217 : (Jvm.Cond.instanceMethod ({ cls := "SkyMargins$Readings", name := "addHolder", desc := "(III)V" } : Jvm.MethodName)) ∈ pg_W := tb_2 (i := 217) rfl rfl
theorem pw2_218 : (Jvm.Cond.code ({ cls := "SkyMargins$Readings", name := "addHolder", desc := "(III)V" } : Jvm.MethodName) prog_6_method_3_code (5 : Nat) (Option.none : Option Jvm.ClassFile.FieldType)) ∈ pg_W := tb_2 (i := 218) rfl rfl
theorem pw2_219 : (Jvm.Cond.methodLink "SkyMargins$Readings" (84 : Nat) ({ cls := "SkyMargins$Readings", name := "find", desc := "(II)I" } : Jvm.MethodName)) ∈ pg_W := tb_2 (i := 219) rfl rfl
theorem pw2_221 : (Jvm.Cond.instanceMethod ({ cls := "SkyMargins$Readings", name := "find", desc := "(II)I" } : Jvm.MethodName)) ∈ pg_W := tb_2 (i := 221) rfl rfl
theorem pw2_222 : (Jvm.Cond.code ({ cls := "SkyMargins$Readings", name := "find", desc := "(II)I" } : Jvm.MethodName) prog_6_method_4_code (5 : Nat) (Option.some Jvm.ClassFile.FieldType.int)) ∈ pg_W := tb_2 (i := 222) rfl rfl
theorem pw2_223 : (Jvm.Cond.methodLink "SkyMargins$Readings" (65 : Nat) ({ cls := "java/lang/Integer", name := "bitCount", desc := "(I)I" } : Jvm.MethodName)) ∈ pg_W := tb_2 (i := 223) rfl rfl
theorem pw2_224 : (Jvm.Cond.static ({ cls := "java/lang/Integer", name := "bitCount", desc := "(I)I" } : Jvm.MethodName)) ∈ pg_W := tb_2 (i := 224) rfl rfl
theorem pw2_225 : (Jvm.Cond.code ({ cls := "java/lang/Integer", name := "bitCount", desc := "(I)I" } : Jvm.MethodName) prog_16_method_49_code (1 : Nat) (Option.some Jvm.ClassFile.FieldType.int)) ∈ pg_W := tb_2 (i := 225) rfl rfl
theorem pw2_226 : (Jvm.Cond.constant "java/lang/Integer" (265 : Nat) (1431655765 : Int32)) ∈ pg_W := tb_2 (i := 226) rfl rfl
theorem pw2_227 : (Jvm.Cond.constant "java/lang/Integer" (266 : Nat) (858993459 : Int32)) ∈ pg_W := tb_2 (i := 227) rfl rfl
theorem pw2_228 : (Jvm.Cond.constant "java/lang/Integer" (267 : Nat) (252645135 : Int32)) ∈ pg_W := tb_2 (i := 228) rfl rfl
theorem pw2_229 : (Jvm.Cond.methodLink "SkyMargins$Readings" (71 : Nat) ({ cls := "SkyMargins$Asker", name := "askOfWording", desc := "(III)V" } : Jvm.MethodName)) ∈ pg_W := tb_2 (i := 229) rfl rfl
theorem pw2_230 : (Jvm.Cond.instanceMethod ({ cls := "SkyMargins$Asker", name := "askOfWording", desc := "(III)V" } : Jvm.MethodName)) ∈ pg_W := tb_2 (i := 230) rfl rfl
theorem pw2_231 : (Jvm.Cond.selects "SkyMargins$Asker" ({ cls := "SkyMargins$Asker", name := "askOfWording", desc := "(III)V" } : Jvm.MethodName) ({ cls := "SkyMargins$Asker", name := "askOfWording", desc := "(III)V" } : Jvm.MethodName)) ∈ pg_W := tb_2 (i := 231) rfl rfl
theorem pw2_232 : (Jvm.Cond.code ({ cls := "SkyMargins$Asker", name := "askOfWording", desc := "(III)V" } : Jvm.MethodName) prog_2_method_3_code (4 : Nat) (Option.none : Option Jvm.ClassFile.FieldType)) ∈ pg_W := tb_2 (i := 232) rfl rfl
theorem pw2_233 : (Jvm.Cond.methodLink "SkyMargins$Asker" (25 : Nat) ({ cls := "SkyMargins$Asker", name := "askOfPlace", desc := "(I)V" } : Jvm.MethodName)) ∈ pg_W := tb_2 (i := 233) rfl rfl
theorem pw2_234 : (Jvm.Cond.instanceMethod ({ cls := "SkyMargins$Asker", name := "askOfPlace", desc := "(I)V" } : Jvm.MethodName)) ∈ pg_W := tb_2 (i := 234) rfl rfl
theorem pw2_235 : (Jvm.Cond.selects "SkyMargins$Asker" ({ cls := "SkyMargins$Asker", name := "askOfPlace", desc := "(I)V" } : Jvm.MethodName) ({ cls := "SkyMargins$Asker", name := "askOfPlace", desc := "(I)V" } : Jvm.MethodName)) ∈ pg_W := tb_2 (i := 235) rfl rfl
theorem pw2_236 : (Jvm.Cond.code ({ cls := "SkyMargins$Asker", name := "askOfPlace", desc := "(I)V" } : Jvm.MethodName) prog_2_method_2_code (2 : Nat) (Option.none : Option Jvm.ClassFile.FieldType)) ∈ pg_W := tb_2 (i := 236) rfl rfl
theorem pw2_237 : (Jvm.Cond.methodLink "SkyMargins$Asker" (19 : Nat) ({ cls := "java/util/Arrays", name := "fill", desc := "([II)V" } : Jvm.MethodName)) ∈ pg_W := tb_2 (i := 237) rfl rfl
theorem pw2_238 : (Jvm.Cond.methodLink "SkyMargins$Readings" (76 : Nat) ({ cls := "SkyMargins$Shelf", name := "textUsed", desc := "()LSkyMargins$Text;" } : Jvm.MethodName)) ∈ pg_W := tb_2 (i := 238) rfl rfl
theorem pw2_239 : (Jvm.Cond.instanceMethod ({ cls := "SkyMargins$Shelf", name := "textUsed", desc := "()LSkyMargins$Text;" } : Jvm.MethodName)) ∈ pg_W := tb_2 (i := 239) rfl rfl
theorem pw3_0 : (Jvm.Cond.selects "SkyMargins$Shelf" ({ cls := "SkyMargins$Shelf", name := "textUsed", desc := "()LSkyMargins$Text;" } : Jvm.MethodName) ({ cls := "SkyMargins$Shelf", name := "textUsed", desc := "()LSkyMargins$Text;" } : Jvm.MethodName)) ∈ pg_W := tb_3 (i := 0) rfl rfl
theorem pw3_1 : (Jvm.Cond.code ({ cls := "SkyMargins$Shelf", name := "textUsed", desc := "()LSkyMargins$Text;" } : Jvm.MethodName) prog_7_method_5_code (1 : Nat) (Option.some (Jvm.ClassFile.FieldType.object "SkyMargins$Text"))) ∈ pg_W := tb_3 (i := 1) rfl rfl
theorem pw3_2 : (Jvm.Cond.methodLink "SkyMargins$Shelf" (63 : Nat) ({ cls := "SkyMargins$Shelf", name := "textOf", desc := "(I)LSkyMargins$Text;" } : Jvm.MethodName)) ∈ pg_W := tb_3 (i := 2) rfl rfl
theorem pw3_3 : (Jvm.Cond.instanceMethod ({ cls := "SkyMargins$Shelf", name := "textOf", desc := "(I)LSkyMargins$Text;" } : Jvm.MethodName)) ∈ pg_W := tb_3 (i := 3) rfl rfl
theorem pw3_4 : (Jvm.Cond.selects "SkyMargins$Shelf" ({ cls := "SkyMargins$Shelf", name := "textOf", desc := "(I)LSkyMargins$Text;" } : Jvm.MethodName) ({ cls := "SkyMargins$Shelf", name := "textOf", desc := "(I)LSkyMargins$Text;" } : Jvm.MethodName)) ∈ pg_W := tb_3 (i := 4) rfl rfl
theorem pw3_5 : (Jvm.Cond.code ({ cls := "SkyMargins$Shelf", name := "textOf", desc := "(I)LSkyMargins$Text;" } : Jvm.MethodName) prog_7_method_4_code (2 : Nat) (Option.some (Jvm.ClassFile.FieldType.object "SkyMargins$Text"))) ∈ pg_W := tb_3 (i := 5) rfl rfl
theorem pw3_6 : (Jvm.Cond.methodLink "SkyMargins$Readings" (80 : Nat) ({ cls := "SkyMargins$Asker", name := "told", desc := "(LSkyMargins$Text;II)I" } : Jvm.MethodName)) ∈ pg_W := tb_3 (i := 6) rfl rfl
theorem pw3_7 : (Jvm.Cond.instanceMethod ({ cls := "SkyMargins$Asker", name := "told", desc := "(LSkyMargins$Text;II)I" } : Jvm.MethodName)) ∈ pg_W := tb_3 (i := 7) rfl rfl
theorem pw3_8 : (Jvm.Cond.selects "SkyMargins$Asker" ({ cls := "SkyMargins$Asker", name := "told", desc := "(LSkyMargins$Text;II)I" } : Jvm.MethodName) ({ cls := "SkyMargins$Asker", name := "told", desc := "(LSkyMargins$Text;II)I" } : Jvm.MethodName)) ∈ pg_W := tb_3 (i := 8) rfl rfl
theorem pw3_9 : (Jvm.Cond.code ({ cls := "SkyMargins$Asker", name := "told", desc := "(LSkyMargins$Text;II)I" } : Jvm.MethodName) prog_2_method_7_code (11 : Nat) (Option.some Jvm.ClassFile.FieldType.int)) ∈ pg_W := tb_3 (i := 9) rfl rfl
theorem pw3_10 : (Jvm.Cond.methodLink "SkyMargins$Asker" (52 : Nat) ({ cls := "SkyMargins$Text", name := "length", desc := "()I" } : Jvm.MethodName)) ∈ pg_W := tb_3 (i := 10) rfl rfl
theorem pw3_11 : (Jvm.Cond.instanceMethod ({ cls := "SkyMargins$Text", name := "length", desc := "()I" } : Jvm.MethodName)) ∈ pg_W := tb_3 (i := 11) rfl rfl
theorem pw3_12 : (Jvm.Cond.selects "SkyMargins$Text" ({ cls := "SkyMargins$Text", name := "length", desc := "()I" } : Jvm.MethodName) ({ cls := "SkyMargins$Text", name := "length", desc := "()I" } : Jvm.MethodName)) ∈ pg_W := tb_3 (i := 12) rfl rfl
theorem pw3_13 : (Jvm.Cond.code ({ cls := "SkyMargins$Text", name := "length", desc := "()I" } : Jvm.MethodName) prog_11_method_2_code (1 : Nat) (Option.some Jvm.ClassFile.FieldType.int)) ∈ pg_W := tb_3 (i := 13) rfl rfl
theorem pw3_14 : (Jvm.Cond.methodLink "SkyMargins$Asker" (58 : Nat) ({ cls := "SkyMargins$Text", name := "codeAt", desc := "(I)I" } : Jvm.MethodName)) ∈ pg_W := tb_3 (i := 14) rfl rfl
theorem pw3_15 : (Jvm.Cond.instanceMethod ({ cls := "SkyMargins$Text", name := "codeAt", desc := "(I)I" } : Jvm.MethodName)) ∈ pg_W := tb_3 (i := 15) rfl rfl
theorem pw3_16 : (Jvm.Cond.selects "SkyMargins$Text" ({ cls := "SkyMargins$Text", name := "codeAt", desc := "(I)I" } : Jvm.MethodName) ({ cls := "SkyMargins$Text", name := "codeAt", desc := "(I)I" } : Jvm.MethodName)) ∈ pg_W := tb_3 (i := 16) rfl rfl
theorem pw3_17 : (Jvm.Cond.code ({ cls := "SkyMargins$Text", name := "codeAt", desc := "(I)I" } : Jvm.MethodName) prog_11_method_3_code (2 : Nat) (Option.some Jvm.ClassFile.FieldType.int)) ∈ pg_W := tb_3 (i := 17) rfl rfl
theorem pw3_18 : (Jvm.Cond.methodLink "SkyMargins$Asker" (62 : Nat) ({ cls := "SkyMargins$Asker", name := "passes", desc := "(LSkyMargins$Text;II)Z" } : Jvm.MethodName)) ∈ pg_W := tb_3 (i := 18) rfl rfl
theorem pw3_20 : (Jvm.Cond.instanceMethod ({ cls := "SkyMargins$Asker", name := "passes", desc := "(LSkyMargins$Text;II)Z" } : Jvm.MethodName)) ∈ pg_W := tb_3 (i := 20) rfl rfl
theorem pw3_21 : (Jvm.Cond.code ({ cls := "SkyMargins$Asker", name := "passes", desc := "(LSkyMargins$Text;II)Z" } : Jvm.MethodName) prog_2_method_9_code (4 : Nat) (Option.some Jvm.ClassFile.FieldType.boolean)) ∈ pg_W := tb_3 (i := 21) rfl rfl
theorem pw3_22 : (Jvm.Cond.methodLink "SkyMargins$Asker" (66 : Nat) ({ cls := "SkyMargins$Asker", name := "work", desc := "(LSkyMargins$Text;II)J" } : Jvm.MethodName)) ∈ pg_W := tb_3 (i := 22) rfl rfl
theorem pw3_24 : (Jvm.Cond.instanceMethod ({ cls := "SkyMargins$Asker", name := "work", desc := "(LSkyMargins$Text;II)J" } : Jvm.MethodName)) ∈ pg_W := tb_3 (i := 24) rfl rfl
theorem pw3_25 : (Jvm.Cond.code ({ cls := "SkyMargins$Asker", name := "work", desc := "(LSkyMargins$Text;II)J" } : Jvm.MethodName) prog_2_method_10_code (11 : Nat) (Option.some Jvm.ClassFile.FieldType.long)) ∈ pg_W := tb_3 (i := 25) rfl rfl
theorem pw3_26 : (Jvm.Cond.methodLink "SkyMargins$Asker" (87 : Nat) ({ cls := "SkyMargins$Asker", name := "askedOf", desc := "(I)I" } : Jvm.MethodName)) ∈ pg_W := tb_3 (i := 26) rfl rfl
theorem pw3_28 : (Jvm.Cond.instanceMethod ({ cls := "SkyMargins$Asker", name := "askedOf", desc := "(I)I" } : Jvm.MethodName)) ∈ pg_W := tb_3 (i := 28) rfl rfl
theorem pw3_29 : (Jvm.Cond.code ({ cls := "SkyMargins$Asker", name := "askedOf", desc := "(I)I" } : Jvm.MethodName) prog_2_method_11_code (2 : Nat) (Option.some Jvm.ClassFile.FieldType.int)) ∈ pg_W := tb_3 (i := 29) rfl rfl
theorem pw3_30 : (Jvm.Cond.methodLink "SkyMargins$Asker" (85 : Nat) ({ cls := "java/lang/Math", name := "max", desc := "(II)I" } : Jvm.MethodName)) ∈ pg_W := tb_3 (i := 30) rfl rfl
theorem pw3_31 : (Jvm.Cond.methodLink "SkyMargins$Asker" (90 : Nat) ({ cls := "SkyMargins$Asker", name := "combined", desc := "(IJJ)J" } : Jvm.MethodName)) ∈ pg_W := tb_3 (i := 31) rfl rfl
theorem pw3_33 : (Jvm.Cond.instanceMethod ({ cls := "SkyMargins$Asker", name := "combined", desc := "(IJJ)J" } : Jvm.MethodName)) ∈ pg_W := tb_3 (i := 33) rfl rfl
theorem pw3_34 : (Jvm.Cond.code ({ cls := "SkyMargins$Asker", name := "combined", desc := "(IJJ)J" } : Jvm.MethodName) prog_2_method_12_code (8 : Nat) (Option.some Jvm.ClassFile.FieldType.long)) ∈ pg_W := tb_3 (i := 34) rfl rfl
theorem pw3_35 : (Jvm.Cond.constantLong "SkyMargins$Asker" (94 : Nat) (1000000000 : Int64)) ∈ pg_W := tb_3 (i := 35) rfl rfl
theorem pw3_36 : (Jvm.Cond.constantLong "SkyMargins$Asker" (96 : Nat) (-1000000000 : Int64)) ∈ pg_W := tb_3 (i := 36) rfl rfl
theorem pw3_37 : (Jvm.Cond.constantLong "SkyMargins$Asker" (74 : Nat) (100 : Int64)) ∈ pg_W := tb_3 (i := 37) rfl rfl
theorem pw3_38 : (Jvm.Cond.methodLink "SkyMargins$Asker" (76 : Nat) ({ cls := "java/lang/Math", name := "min", desc := "(JJ)J" } : Jvm.MethodName)) ∈ pg_W := tb_3 (i := 38) rfl rfl
theorem pw3_41 : (Jvm.Cond.methodLink "SkyMargins$Asker" (82 : Nat) ({ cls := "java/lang/Math", name := "max", desc := "(JJ)J" } : Jvm.MethodName)) ∈ pg_W := tb_3 (i := 41) rfl rfl
theorem pw3_44 : (Jvm.Cond.methodLink "SkyMargins" (152 : Nat) ({ cls := "SkyMargins$Readings", name := "sharedOf", desc := "(LSkyMargins$Shelf;I)I" } : Jvm.MethodName)) ∈ pg_W := tb_3 (i := 44) rfl rfl
theorem pw3_45 : (Jvm.Cond.instanceMethod ({ cls := "SkyMargins$Readings", name := "sharedOf", desc := "(LSkyMargins$Shelf;I)I" } : Jvm.MethodName)) ∈ pg_W := tb_3 (i := 45) rfl rfl
theorem pw3_46 : (Jvm.Cond.selects "SkyMargins$Readings" ({ cls := "SkyMargins$Readings", name := "sharedOf", desc := "(LSkyMargins$Shelf;I)I" } : Jvm.MethodName) ({ cls := "SkyMargins$Readings", name := "sharedOf", desc := "(LSkyMargins$Shelf;I)I" } : Jvm.MethodName)) ∈ pg_W := tb_3 (i := 46) rfl rfl
theorem pw3_47 : (Jvm.Cond.code ({ cls := "SkyMargins$Readings", name := "sharedOf", desc := "(LSkyMargins$Shelf;I)I" } : Jvm.MethodName) prog_6_method_6_code (4 : Nat) (Option.some Jvm.ClassFile.FieldType.int)) ∈ pg_W := tb_3 (i := 47) rfl rfl
theorem pw3_48 : (Jvm.Cond.methodLink "SkyMargins$Readings" (87 : Nat) ({ cls := "SkyMargins$Readings", name := "holdersOf", desc := "(II)I" } : Jvm.MethodName)) ∈ pg_W := tb_3 (i := 48) rfl rfl
theorem pw3_49 : (Jvm.Cond.instanceMethod ({ cls := "SkyMargins$Readings", name := "holdersOf", desc := "(II)I" } : Jvm.MethodName)) ∈ pg_W := tb_3 (i := 49) rfl rfl
theorem pw3_50 : (Jvm.Cond.selects "SkyMargins$Readings" ({ cls := "SkyMargins$Readings", name := "holdersOf", desc := "(II)I" } : Jvm.MethodName) ({ cls := "SkyMargins$Readings", name := "holdersOf", desc := "(II)I" } : Jvm.MethodName)) ∈ pg_W := tb_3 (i := 50) rfl rfl
theorem pw3_51 : (Jvm.Cond.code ({ cls := "SkyMargins$Readings", name := "holdersOf", desc := "(II)I" } : Jvm.MethodName) prog_6_method_5_code (4 : Nat) (Option.some Jvm.ClassFile.FieldType.int)) ∈ pg_W := tb_3 (i := 51) rfl rfl
theorem pw3_52 : (Jvm.Cond.methodLink "SkyMargins" (156 : Nat) ({ cls := "SkyMargins$Table", name := "at", desc := "(II)I" } : Jvm.MethodName)) ∈ pg_W := tb_3 (i := 52) rfl rfl
theorem pw3_53 : (Jvm.Cond.methodLink "SkyMarginsLaw" (49 : Nat) ({ cls := "SkyMargins", name := "terms", desc := "(II)I" } : Jvm.MethodName)) ∈ pg_W := tb_3 (i := 53) rfl rfl
theorem pw3_54 : (Jvm.Cond.instanceMethod ({ cls := "SkyMargins", name := "terms", desc := "(II)I" } : Jvm.MethodName)) ∈ pg_W := tb_3 (i := 54) rfl rfl
theorem pw3_55 : (Jvm.Cond.selects "SkyMargins" ({ cls := "SkyMargins", name := "terms", desc := "(II)I" } : Jvm.MethodName) ({ cls := "SkyMargins", name := "terms", desc := "(II)I" } : Jvm.MethodName)) ∈ pg_W := tb_3 (i := 55) rfl rfl
theorem pw3_56 : (Jvm.Cond.code ({ cls := "SkyMargins", name := "terms", desc := "(II)I" } : Jvm.MethodName) prog_1_method_10_code (4 : Nat) (Option.some Jvm.ClassFile.FieldType.int)) ∈ pg_W := tb_3 (i := 56) rfl rfl
theorem pw3_57 : (Jvm.Cond.fieldLink "SkyMargins" (160 : Nat) "SkyMargins" "TERM_LEAST" "[I") ∈ pg_W := tb_3 (i := 57) rfl rfl
theorem pw3_59 : (Jvm.Cond.fieldLink "SkyMargins" (163 : Nat) "SkyMargins" "TERM_MOST" "[I") ∈ pg_W := tb_3 (i := 59) rfl rfl
theorem pw3_61 : (Jvm.Cond.methodLink "SkyMarginsLaw" (53 : Nat) ({ cls := "SkyMargins", name := "feed", desc := "(IIIII)I" } : Jvm.MethodName)) ∈ pg_W := tb_3 (i := 61) rfl rfl
theorem pw3_62 : (Jvm.Cond.instanceMethod ({ cls := "SkyMargins", name := "feed", desc := "(IIIII)I" } : Jvm.MethodName)) ∈ pg_W := tb_3 (i := 62) rfl rfl
theorem pw3_63 : (Jvm.Cond.selects "SkyMargins" ({ cls := "SkyMargins", name := "feed", desc := "(IIIII)I" } : Jvm.MethodName) ({ cls := "SkyMargins", name := "feed", desc := "(IIIII)I" } : Jvm.MethodName)) ∈ pg_W := tb_3 (i := 63) rfl rfl
theorem pw3_64 : (Jvm.Cond.code ({ cls := "SkyMargins", name := "feed", desc := "(IIIII)I" } : Jvm.MethodName) prog_1_method_11_code (6 : Nat) (Option.some Jvm.ClassFile.FieldType.int)) ∈ pg_W := tb_3 (i := 64) rfl rfl
theorem pw3_65 : (Jvm.Cond.methodLink "SkyMargins" (169 : Nat) ({ cls := "SkyMargins$Tape", name := "hasRoomFor", desc := "(I)Z" } : Jvm.MethodName)) ∈ pg_W := tb_3 (i := 65) rfl rfl
theorem pw3_66 : (Jvm.Cond.instanceMethod ({ cls := "SkyMargins$Tape", name := "hasRoomFor", desc := "(I)Z" } : Jvm.MethodName)) ∈ pg_W := tb_3 (i := 66) rfl rfl
theorem pw3_67 : (Jvm.Cond.selects "SkyMargins$Tape" ({ cls := "SkyMargins$Tape", name := "hasRoomFor", desc := "(I)Z" } : Jvm.MethodName) ({ cls := "SkyMargins$Tape", name := "hasRoomFor", desc := "(I)Z" } : Jvm.MethodName)) ∈ pg_W := tb_3 (i := 67) rfl rfl
theorem pw3_68 : (Jvm.Cond.code ({ cls := "SkyMargins$Tape", name := "hasRoomFor", desc := "(I)Z" } : Jvm.MethodName) prog_10_method_3_code (2 : Nat) (Option.some Jvm.ClassFile.FieldType.boolean)) ∈ pg_W := tb_3 (i := 68) rfl rfl
theorem pw3_69 : (Jvm.Cond.methodLink "SkyMargins" (172 : Nat) ({ cls := "SkyMargins$Tape", name := "putNumber", desc := "(I)V" } : Jvm.MethodName)) ∈ pg_W := tb_3 (i := 69) rfl rfl
theorem pw3_70 : (Jvm.Cond.instanceMethod ({ cls := "SkyMargins$Tape", name := "putNumber", desc := "(I)V" } : Jvm.MethodName)) ∈ pg_W := tb_3 (i := 70) rfl rfl
theorem pw3_71 : (Jvm.Cond.selects "SkyMargins$Tape" ({ cls := "SkyMargins$Tape", name := "putNumber", desc := "(I)V" } : Jvm.MethodName) ({ cls := "SkyMargins$Tape", name := "putNumber", desc := "(I)V" } : Jvm.MethodName)) ∈ pg_W := tb_3 (i := 71) rfl rfl
theorem pw3_72 : (Jvm.Cond.code ({ cls := "SkyMargins$Tape", name := "putNumber", desc := "(I)V" } : Jvm.MethodName) prog_10_method_4_code (3 : Nat) (Option.none : Option Jvm.ClassFile.FieldType)) ∈ pg_W := tb_3 (i := 72) rfl rfl
theorem pw3_73 : (Jvm.Cond.methodLink "SkyMargins" (176 : Nat) ({ cls := "SkyMargins$Tape", name := "size", desc := "()I" } : Jvm.MethodName)) ∈ pg_W := tb_3 (i := 73) rfl rfl
theorem pw3_74 : (Jvm.Cond.instanceMethod ({ cls := "SkyMargins$Tape", name := "size", desc := "()I" } : Jvm.MethodName)) ∈ pg_W := tb_3 (i := 74) rfl rfl
theorem pw3_75 : (Jvm.Cond.selects "SkyMargins$Tape" ({ cls := "SkyMargins$Tape", name := "size", desc := "()I" } : Jvm.MethodName) ({ cls := "SkyMargins$Tape", name := "size", desc := "()I" } : Jvm.MethodName)) ∈ pg_W := tb_3 (i := 75) rfl rfl
theorem pw3_76 : (Jvm.Cond.code ({ cls := "SkyMargins$Tape", name := "size", desc := "()I" } : Jvm.MethodName) prog_10_method_2_code (1 : Nat) (Option.some Jvm.ClassFile.FieldType.int)) ∈ pg_W := tb_3 (i := 76) rfl rfl
theorem pw3_77 : (Jvm.Cond.methodLink "SkyMarginsLaw" (57 : Nat) ({ cls := "SkyMargins", name := "end", desc := "(I)I" } : Jvm.MethodName)) ∈ pg_W := tb_3 (i := 77) rfl rfl
theorem pw3_78 : (Jvm.Cond.instanceMethod ({ cls := "SkyMargins", name := "end", desc := "(I)I" } : Jvm.MethodName)) ∈ pg_W := tb_3 (i := 78) rfl rfl
theorem pw3_79 : (Jvm.Cond.selects "SkyMargins" ({ cls := "SkyMargins", name := "end", desc := "(I)I" } : Jvm.MethodName) ({ cls := "SkyMargins", name := "end", desc := "(I)I" } : Jvm.MethodName)) ∈ pg_W := tb_3 (i := 79) rfl rfl
theorem pw3_80 : (Jvm.Cond.code ({ cls := "SkyMargins", name := "end", desc := "(I)I" } : Jvm.MethodName) prog_1_method_12_code (2 : Nat) (Option.some Jvm.ClassFile.FieldType.int)) ∈ pg_W := tb_3 (i := 80) rfl rfl
theorem pw3_81 : (Jvm.Cond.methodLink "SkyMargins" (177 : Nat) ({ cls := "SkyMargins$Tape", name := "shorten", desc := "(I)V" } : Jvm.MethodName)) ∈ pg_W := tb_3 (i := 81) rfl rfl
theorem pw3_82 : (Jvm.Cond.instanceMethod ({ cls := "SkyMargins$Tape", name := "shorten", desc := "(I)V" } : Jvm.MethodName)) ∈ pg_W := tb_3 (i := 82) rfl rfl
theorem pw3_83 : (Jvm.Cond.selects "SkyMargins$Tape" ({ cls := "SkyMargins$Tape", name := "shorten", desc := "(I)V" } : Jvm.MethodName) ({ cls := "SkyMargins$Tape", name := "shorten", desc := "(I)V" } : Jvm.MethodName)) ∈ pg_W := tb_3 (i := 83) rfl rfl
theorem pw3_84 : (Jvm.Cond.code ({ cls := "SkyMargins$Tape", name := "shorten", desc := "(I)V" } : Jvm.MethodName) prog_10_method_5_code (2 : Nat) (Option.none : Option Jvm.ClassFile.FieldType)) ∈ pg_W := tb_3 (i := 84) rfl rfl
theorem pw3_85 : (Jvm.Cond.methodLink "SkyMargins$Tape" (19 : Nat) ({ cls := "java/lang/Math", name := "min", desc := "(II)I" } : Jvm.MethodName)) ∈ pg_W := tb_3 (i := 85) rfl rfl
theorem pw3_88 : (Jvm.Cond.methodLink "SkyMargins$Tape" (25 : Nat) ({ cls := "java/lang/Math", name := "max", desc := "(II)I" } : Jvm.MethodName)) ∈ pg_W := tb_3 (i := 88) rfl rfl
theorem pw3_89 : (Jvm.Cond.methodLink "SkyMarginsLaw" (62 : Nat) ({ cls := "SkyMargins", name := "row", desc := "(I)I" } : Jvm.MethodName)) ∈ pg_W := tb_3 (i := 89) rfl rfl
theorem pw3_90 : (Jvm.Cond.instanceMethod ({ cls := "SkyMargins", name := "row", desc := "(I)I" } : Jvm.MethodName)) ∈ pg_W := tb_3 (i := 90) rfl rfl
theorem pw3_91 : (Jvm.Cond.selects "SkyMargins" ({ cls := "SkyMargins", name := "row", desc := "(I)I" } : Jvm.MethodName) ({ cls := "SkyMargins", name := "row", desc := "(I)I" } : Jvm.MethodName)) ∈ pg_W := tb_3 (i := 91) rfl rfl
theorem pw3_92 : (Jvm.Cond.code ({ cls := "SkyMargins", name := "row", desc := "(I)I" } : Jvm.MethodName) prog_1_method_13_code (6 : Nat) (Option.some Jvm.ClassFile.FieldType.int)) ∈ pg_W := tb_3 (i := 92) rfl rfl
theorem pw3_93 : (Jvm.Cond.methodLink "SkyMargins" (180 : Nat) ({ cls := "SkyMargins", name := "takeFromRow", desc := "(II)Z" } : Jvm.MethodName)) ∈ pg_W := tb_3 (i := 93) rfl rfl
theorem pw3_95 : (Jvm.Cond.instanceMethod ({ cls := "SkyMargins", name := "takeFromRow", desc := "(II)Z" } : Jvm.MethodName)) ∈ pg_W := tb_3 (i := 95) rfl rfl
theorem pw3_96 : (Jvm.Cond.code ({ cls := "SkyMargins", name := "takeFromRow", desc := "(II)Z" } : Jvm.MethodName) prog_1_method_53_code (7 : Nat) (Option.some Jvm.ClassFile.FieldType.boolean)) ∈ pg_W := tb_3 (i := 96) rfl rfl
theorem pw3_97 : (Jvm.Cond.methodLink "SkyMargins" (377 : Nat) ({ cls := "SkyMargins$Tape", name := "byteAt", desc := "(I)I" } : Jvm.MethodName)) ∈ pg_W := tb_3 (i := 97) rfl rfl
theorem pw3_98 : (Jvm.Cond.instanceMethod ({ cls := "SkyMargins$Tape", name := "byteAt", desc := "(I)I" } : Jvm.MethodName)) ∈ pg_W := tb_3 (i := 98) rfl rfl
theorem pw3_99 : (Jvm.Cond.selects "SkyMargins$Tape" ({ cls := "SkyMargins$Tape", name := "byteAt", desc := "(I)I" } : Jvm.MethodName) ({ cls := "SkyMargins$Tape", name := "byteAt", desc := "(I)I" } : Jvm.MethodName)) ∈ pg_W := tb_3 (i := 99) rfl rfl
theorem pw3_100 : (Jvm.Cond.code ({ cls := "SkyMargins$Tape", name := "byteAt", desc := "(I)I" } : Jvm.MethodName) prog_10_method_6_code (2 : Nat) (Option.some Jvm.ClassFile.FieldType.int)) ∈ pg_W := tb_3 (i := 100) rfl rfl
theorem pw3_101 : (Jvm.Cond.methodLink "SkyMarginsLaw" (66 : Nat) ({ cls := "SkyMargins", name := "trimmed", desc := "()I" } : Jvm.MethodName)) ∈ pg_W := tb_3 (i := 101) rfl rfl
theorem pw3_102 : (Jvm.Cond.instanceMethod ({ cls := "SkyMargins", name := "trimmed", desc := "()I" } : Jvm.MethodName)) ∈ pg_W := tb_3 (i := 102) rfl rfl
theorem pw3_103 : (Jvm.Cond.selects "SkyMargins" ({ cls := "SkyMargins", name := "trimmed", desc := "()I" } : Jvm.MethodName) ({ cls := "SkyMargins", name := "trimmed", desc := "()I" } : Jvm.MethodName)) ∈ pg_W := tb_3 (i := 103) rfl rfl
theorem pw3_104 : (Jvm.Cond.code ({ cls := "SkyMargins", name := "trimmed", desc := "()I" } : Jvm.MethodName) prog_1_method_14_code (1 : Nat) (Option.some Jvm.ClassFile.FieldType.int)) ∈ pg_W := tb_3 (i := 104) rfl rfl
theorem pw3_105 : (Jvm.Cond.methodLink "SkyMarginsLaw" (71 : Nat) ({ cls := "SkyMargins", name := "text", desc := "()I" } : Jvm.MethodName)) ∈ pg_W := tb_3 (i := 105) rfl rfl
theorem pw3_106 : (Jvm.Cond.instanceMethod ({ cls := "SkyMargins", name := "text", desc := "()I" } : Jvm.MethodName)) ∈ pg_W := tb_3 (i := 106) rfl rfl
theorem pw3_107 : (Jvm.Cond.selects "SkyMargins" ({ cls := "SkyMargins", name := "text", desc := "()I" } : Jvm.MethodName) ({ cls := "SkyMargins", name := "text", desc := "()I" } : Jvm.MethodName)) ∈ pg_W := tb_3 (i := 107) rfl rfl
theorem pw3_108 : (Jvm.Cond.code ({ cls := "SkyMargins", name := "text", desc := "()I" } : Jvm.MethodName) prog_1_method_15_code (2 : Nat) (Option.some Jvm.ClassFile.FieldType.int)) ∈ pg_W := tb_3 (i := 108) rfl rfl
theorem pw3_109 : (Jvm.Cond.methodLink "SkyMargins" (189 : Nat) ({ cls := "SkyMargins$Parser", name := "compile", desc := "()LSkyMargins$Text;" } : Jvm.MethodName)) ∈ pg_W := tb_3 (i := 109) rfl rfl
theorem pw3_110 : (Jvm.Cond.instanceMethod ({ cls := "SkyMargins$Parser", name := "compile", desc := "()LSkyMargins$Text;" } : Jvm.MethodName)) ∈ pg_W := tb_3 (i := 110) rfl rfl
theorem pw3_111 : (Jvm.Cond.selects "SkyMargins$Parser" ({ cls := "SkyMargins$Parser", name := "compile", desc := "()LSkyMargins$Text;" } : Jvm.MethodName) ({ cls := "SkyMargins$Parser", name := "compile", desc := "()LSkyMargins$Text;" } : Jvm.MethodName)) ∈ pg_W := tb_3 (i := 111) rfl rfl
theorem pw3_112 : (Jvm.Cond.code ({ cls := "SkyMargins$Parser", name := "compile", desc := "()LSkyMargins$Text;" } : Jvm.MethodName) prog_5_method_3_code (2 : Nat) (Option.some (Jvm.ClassFile.FieldType.object "SkyMargins$Text"))) ∈ pg_W := tb_3 (i := 112) rfl rfl
theorem pw3_113 : (Jvm.Cond.methodLink "SkyMargins$Parser" (32 : Nat) ({ cls := "SkyMargins$Parser", name := "advance", desc := "()V" } : Jvm.MethodName)) ∈ pg_W := tb_3 (i := 113) rfl rfl
theorem pw3_115 : (Jvm.Cond.instanceMethod ({ cls := "SkyMargins$Parser", name := "advance", desc := "()V" } : Jvm.MethodName)) ∈ pg_W := tb_3 (i := 115) rfl rfl
theorem pw3_116 : (Jvm.Cond.code ({ cls := "SkyMargins$Parser", name := "advance", desc := "()V" } : Jvm.MethodName) prog_5_method_14_code (3 : Nat) (Option.none : Option Jvm.ClassFile.FieldType)) ∈ pg_W := tb_3 (i := 116) rfl rfl
theorem pw3_117 : (Jvm.Cond.methodLink "SkyMargins$Parser" (92 : Nat) ({ cls := "SkyMargins$Tape", name := "size", desc := "()I" } : Jvm.MethodName)) ∈ pg_W := tb_3 (i := 117) rfl rfl
theorem pw3_118 : (Jvm.Cond.methodLink "SkyMargins$Parser" (98 : Nat) ({ cls := "SkyMargins$Tape", name := "byteAt", desc := "(I)I" } : Jvm.MethodName)) ∈ pg_W := tb_3 (i := 118) rfl rfl
theorem pw3_119 : (Jvm.Cond.methodLink "SkyMargins$Parser" (101 : Nat) ({ cls := "SkyMargins$Parser", name := "isLetter", desc := "(I)Z" } : Jvm.MethodName)) ∈ pg_W := tb_3 (i := 119) rfl rfl
theorem pw3_120 : (Jvm.Cond.static ({ cls := "SkyMargins$Parser", name := "isLetter", desc := "(I)Z" } : Jvm.MethodName)) ∈ pg_W := tb_3 (i := 120) rfl rfl
theorem pw3_121 : (Jvm.Cond.code ({ cls := "SkyMargins$Parser", name := "isLetter", desc := "(I)Z" } : Jvm.MethodName) prog_5_method_16_code (1 : Nat) (Option.some Jvm.ClassFile.FieldType.boolean)) ∈ pg_W := tb_3 (i := 121) rfl rfl
theorem pw3_122 : (Jvm.Cond.methodLink "SkyMargins$Parser" (104 : Nat) ({ cls := "SkyMargins$Parser", name := "wordNumber", desc := "()I" } : Jvm.MethodName)) ∈ pg_W := tb_3 (i := 122) rfl rfl
theorem pw3_124 : (Jvm.Cond.instanceMethod ({ cls := "SkyMargins$Parser", name := "wordNumber", desc := "()I" } : Jvm.MethodName)) ∈ pg_W := tb_3 (i := 124) rfl rfl
theorem pw3_125 : (Jvm.Cond.code ({ cls := "SkyMargins$Parser", name := "wordNumber", desc := "()I" } : Jvm.MethodName) prog_5_method_15_code (7 : Nat) (Option.some Jvm.ClassFile.FieldType.int)) ∈ pg_W := tb_3 (i := 125) rfl rfl
theorem pw3_127 : (Jvm.Cond.methodLink "SkyMargins$Parser" (118 : Nat) ({ cls := "java/lang/String", name := "length", desc := "()I" } : Jvm.MethodName)) ∈ pg_W := tb_3 (i := 127) rfl rfl
theorem pw3_137 : (Jvm.Cond.methodLink "SkyMargins$Parser" (122 : Nat) ({ cls := "java/lang/String", name := "charAt", desc := "(I)C" } : Jvm.MethodName)) ∈ pg_W := tb_3 (i := 137) rfl rfl
theorem pw3_175 : (Jvm.Cond.methodLink "SkyMargins$Parser" (107 : Nat) ({ cls := "SkyMargins$Parser", name := "isDigit", desc := "(I)Z" } : Jvm.MethodName)) ∈ pg_W := tb_3 (i := 175) rfl rfl
theorem pw3_176 : (Jvm.Cond.static ({ cls := "SkyMargins$Parser", name := "isDigit", desc := "(I)Z" } : Jvm.MethodName)) ∈ pg_W := tb_3 (i := 176) rfl rfl
theorem pw3_177 : (Jvm.Cond.code ({ cls := "SkyMargins$Parser", name := "isDigit", desc := "(I)Z" } : Jvm.MethodName) prog_5_method_17_code (1 : Nat) (Option.some Jvm.ClassFile.FieldType.boolean)) ∈ pg_W := tb_3 (i := 177) rfl rfl
theorem pw3_178 : (Jvm.Cond.methodLink "SkyMargins$Parser" (110 : Nat) ({ cls := "java/lang/Math", name := "min", desc := "(II)I" } : Jvm.MethodName)) ∈ pg_W := tb_3 (i := 178) rfl rfl
theorem pw3_179 : (Jvm.Cond.methodLink "SkyMargins$Parser" (35 : Nat) ({ cls := "SkyMargins$Parser", name := "fail", desc := "()Z" } : Jvm.MethodName)) ∈ pg_W := tb_3 (i := 179) rfl rfl
theorem pw3_181 : (Jvm.Cond.instanceMethod ({ cls := "SkyMargins$Parser", name := "fail", desc := "()Z" } : Jvm.MethodName)) ∈ pg_W := tb_3 (i := 181) rfl rfl
theorem pw3_182 : (Jvm.Cond.code ({ cls := "SkyMargins$Parser", name := "fail", desc := "()Z" } : Jvm.MethodName) prog_5_method_4_code (1 : Nat) (Option.some Jvm.ClassFile.FieldType.boolean)) ∈ pg_W := tb_3 (i := 182) rfl rfl
theorem pw3_183 : (Jvm.Cond.methodLink "SkyMargins$Parser" (39 : Nat) ({ cls := "SkyMargins$Parser", name := "readClause", desc := "()Z" } : Jvm.MethodName)) ∈ pg_W := tb_3 (i := 183) rfl rfl
theorem pw3_185 : (Jvm.Cond.instanceMethod ({ cls := "SkyMargins$Parser", name := "readClause", desc := "()Z" } : Jvm.MethodName)) ∈ pg_W := tb_3 (i := 185) rfl rfl
theorem pw3_186 : (Jvm.Cond.code ({ cls := "SkyMargins$Parser", name := "readClause", desc := "()Z" } : Jvm.MethodName) prog_5_method_5_code (3 : Nat) (Option.some Jvm.ClassFile.FieldType.boolean)) ∈ pg_W := tb_3 (i := 186) rfl rfl
theorem pw3_187 : (Jvm.Cond.methodLink "SkyMargins$Parser" (57 : Nat) ({ cls := "SkyMargins$Parser", name := "emit", desc := "(I)V" } : Jvm.MethodName)) ∈ pg_W := tb_3 (i := 187) rfl rfl
theorem pw3_189 : (Jvm.Cond.instanceMethod ({ cls := "SkyMargins$Parser", name := "emit", desc := "(I)V" } : Jvm.MethodName)) ∈ pg_W := tb_3 (i := 189) rfl rfl
theorem pw3_190 : (Jvm.Cond.code ({ cls := "SkyMargins$Parser", name := "emit", desc := "(I)V" } : Jvm.MethodName) prog_5_method_18_code (2 : Nat) (Option.none : Option Jvm.ClassFile.FieldType)) ∈ pg_W := tb_3 (i := 190) rfl rfl
theorem pw3_191 : (Jvm.Cond.methodLink "SkyMargins$Parser" (61 : Nat) ({ cls := "SkyMargins$Parser", name := "readSum", desc := "(I)Z" } : Jvm.MethodName)) ∈ pg_W := tb_3 (i := 191) rfl rfl
theorem pw3_193 : (Jvm.Cond.instanceMethod ({ cls := "SkyMargins$Parser", name := "readSum", desc := "(I)Z" } : Jvm.MethodName)) ∈ pg_W := tb_3 (i := 193) rfl rfl
theorem pw3_194 : (Jvm.Cond.code ({ cls := "SkyMargins$Parser", name := "readSum", desc := "(I)Z" } : Jvm.MethodName) prog_5_method_9_code (4 : Nat) (Option.some Jvm.ClassFile.FieldType.boolean)) ∈ pg_W := tb_3 (i := 194) rfl rfl
theorem pw3_195 : (Jvm.Cond.methodLink "SkyMargins$Parser" (83 : Nat) ({ cls := "SkyMargins$Parser", name := "readTerm", desc := "(I)Z" } : Jvm.MethodName)) ∈ pg_W := tb_3 (i := 195) rfl rfl
theorem pw3_197 : (Jvm.Cond.instanceMethod ({ cls := "SkyMargins$Parser", name := "readTerm", desc := "(I)Z" } : Jvm.MethodName)) ∈ pg_W := tb_3 (i := 197) rfl rfl
theorem pw3_198 : (Jvm.Cond.code ({ cls := "SkyMargins$Parser", name := "readTerm", desc := "(I)Z" } : Jvm.MethodName) prog_5_method_10_code (4 : Nat) (Option.some Jvm.ClassFile.FieldType.boolean)) ∈ pg_W := tb_3 (i := 198) rfl rfl
theorem pw3_199 : (Jvm.Cond.methodLink "SkyMargins$Parser" (86 : Nat) ({ cls := "SkyMargins$Parser", name := "readPart", desc := "(I)Z" } : Jvm.MethodName)) ∈ pg_W := tb_3 (i := 199) rfl rfl
theorem pw3_201 : (Jvm.Cond.instanceMethod ({ cls := "SkyMargins$Parser", name := "readPart", desc := "(I)Z" } : Jvm.MethodName)) ∈ pg_W := tb_3 (i := 201) rfl rfl
theorem pw3_202 : (Jvm.Cond.code ({ cls := "SkyMargins$Parser", name := "readPart", desc := "(I)Z" } : Jvm.MethodName) prog_5_method_11_code (4 : Nat) (Option.some Jvm.ClassFile.FieldType.boolean)) ∈ pg_W := tb_3 (i := 202) rfl rfl
theorem pw3_203 : (Jvm.Cond.methodLink "SkyMargins$Parser" (80 : Nat) ({ cls := "SkyMargins$Parser", name := "openBracket", desc := "(I)Z" } : Jvm.MethodName)) ∈ pg_W := tb_3 (i := 203) rfl rfl
theorem pw3_205 : (Jvm.Cond.instanceMethod ({ cls := "SkyMargins$Parser", name := "openBracket", desc := "(I)Z" } : Jvm.MethodName)) ∈ pg_W := tb_3 (i := 205) rfl rfl
theorem pw3_206 : (Jvm.Cond.code ({ cls := "SkyMargins$Parser", name := "openBracket", desc := "(I)Z" } : Jvm.MethodName) prog_5_method_12_code (2 : Nat) (Option.some Jvm.ClassFile.FieldType.boolean)) ∈ pg_W := tb_3 (i := 206) rfl rfl
theorem pw3_207 : (Jvm.Cond.methodLink "SkyMargins$Parser" (50 : Nat) ({ cls := "SkyMargins$Parser", name := "takeSign", desc := "(I)Z" } : Jvm.MethodName)) ∈ pg_W := tb_3 (i := 207) rfl rfl
theorem pw3_209 : (Jvm.Cond.instanceMethod ({ cls := "SkyMargins$Parser", name := "takeSign", desc := "(I)Z" } : Jvm.MethodName)) ∈ pg_W := tb_3 (i := 209) rfl rfl
theorem pw3_210 : (Jvm.Cond.code ({ cls := "SkyMargins$Parser", name := "takeSign", desc := "(I)Z" } : Jvm.MethodName) prog_5_method_13_code (2 : Nat) (Option.some Jvm.ClassFile.FieldType.boolean)) ∈ pg_W := tb_3 (i := 210) rfl rfl
theorem pw3_211 : (Jvm.Cond.methodLink "SkyMargins$Parser" (64 : Nat) ({ cls := "SkyMargins$Parser", name := "patch", desc := "(I)V" } : Jvm.MethodName)) ∈ pg_W := tb_3 (i := 211) rfl rfl
theorem pw3_213 : (Jvm.Cond.instanceMethod ({ cls := "SkyMargins$Parser", name := "patch", desc := "(I)V" } : Jvm.MethodName)) ∈ pg_W := tb_3 (i := 213) rfl rfl
theorem pw3_214 : (Jvm.Cond.code ({ cls := "SkyMargins$Parser", name := "patch", desc := "(I)V" } : Jvm.MethodName) prog_5_method_20_code (2 : Nat) (Option.none : Option Jvm.ClassFile.FieldType)) ∈ pg_W := tb_3 (i := 214) rfl rfl
theorem pw3_215 : (Jvm.Cond.methodLink "SkyMargins$Parser" (67 : Nat) ({ cls := "SkyMargins$Parser", name := "readTest", desc := "(I)Z" } : Jvm.MethodName)) ∈ pg_W := tb_3 (i := 215) rfl rfl
theorem pw3_217 : (Jvm.Cond.instanceMethod ({ cls := "SkyMargins$Parser", name := "readTest", desc := "(I)Z" } : Jvm.MethodName)) ∈ pg_W := tb_3 (i := 217) rfl rfl
theorem pw3_218 : (Jvm.Cond.code ({ cls := "SkyMargins$Parser", name := "readTest", desc := "(I)Z" } : Jvm.MethodName) prog_5_method_6_code (4 : Nat) (Option.some Jvm.ClassFile.FieldType.boolean)) ∈ pg_W := tb_3 (i := 218) rfl rfl
theorem pw3_219 : (Jvm.Cond.methodLink "SkyMargins$Parser" (70 : Nat) ({ cls := "SkyMargins$Parser", name := "readBoth", desc := "(I)Z" } : Jvm.MethodName)) ∈ pg_W := tb_3 (i := 219) rfl rfl
theorem pw3_221 : (Jvm.Cond.instanceMethod ({ cls := "SkyMargins$Parser", name := "readBoth", desc := "(I)Z" } : Jvm.MethodName)) ∈ pg_W := tb_3 (i := 221) rfl rfl
theorem pw3_222 : (Jvm.Cond.code ({ cls := "SkyMargins$Parser", name := "readBoth", desc := "(I)Z" } : Jvm.MethodName) prog_5_method_7_code (4 : Nat) (Option.some Jvm.ClassFile.FieldType.boolean)) ∈ pg_W := tb_3 (i := 222) rfl rfl
theorem pw3_223 : (Jvm.Cond.methodLink "SkyMargins$Parser" (77 : Nat) ({ cls := "SkyMargins$Parser", name := "readPlain", desc := "(I)Z" } : Jvm.MethodName)) ∈ pg_W := tb_3 (i := 223) rfl rfl
theorem pw3_225 : (Jvm.Cond.instanceMethod ({ cls := "SkyMargins$Parser", name := "readPlain", desc := "(I)Z" } : Jvm.MethodName)) ∈ pg_W := tb_3 (i := 225) rfl rfl
theorem pw3_226 : (Jvm.Cond.code ({ cls := "SkyMargins$Parser", name := "readPlain", desc := "(I)Z" } : Jvm.MethodName) prog_5_method_8_code (4 : Nat) (Option.some Jvm.ClassFile.FieldType.boolean)) ∈ pg_W := tb_3 (i := 226) rfl rfl
theorem pw3_227 : (Jvm.Cond.methodLink "SkyMargins$Parser" (73 : Nat) ({ cls := "SkyMargins$Parser", name := "emitJump", desc := "(I)I" } : Jvm.MethodName)) ∈ pg_W := tb_3 (i := 227) rfl rfl
theorem pw3_229 : (Jvm.Cond.instanceMethod ({ cls := "SkyMargins$Parser", name := "emitJump", desc := "(I)I" } : Jvm.MethodName)) ∈ pg_W := tb_3 (i := 229) rfl rfl
theorem pw3_230 : (Jvm.Cond.code ({ cls := "SkyMargins$Parser", name := "emitJump", desc := "(I)I" } : Jvm.MethodName) prog_5_method_19_code (2 : Nat) (Option.some Jvm.ClassFile.FieldType.int)) ∈ pg_W := tb_3 (i := 230) rfl rfl
theorem pw3_231 : (Jvm.Cond.classLink "SkyMargins$Parser" (45 : Nat) "SkyMargins$Text") ∈ pg_W := tb_3 (i := 231) rfl rfl
theorem pw3_232 : (Jvm.Cond.instantiable "SkyMargins$Text" (1 : Nat)) ∈ pg_W := tb_3 (i := 232) rfl rfl
theorem pw3_233 : (Jvm.Cond.methodLink "SkyMargins$Parser" (47 : Nat) ({ cls := "SkyMargins$Text", name := "<init>", desc := "([II)V" } : Jvm.MethodName)) ∈ pg_W := tb_3 (i := 233) rfl rfl
theorem pw3_234 : (Jvm.Cond.instanceMethod ({ cls := "SkyMargins$Text", name := "<init>", desc := "([II)V" } : Jvm.MethodName)) ∈ pg_W := tb_3 (i := 234) rfl rfl
theorem pw3_235 : (Jvm.Cond.code ({ cls := "SkyMargins$Text", name := "<init>", desc := "([II)V" } : Jvm.MethodName) prog_11_method_1_code (3 : Nat) (Option.none : Option Jvm.ClassFile.FieldType)) ∈ pg_W := tb_3 (i := 235) rfl rfl
theorem pw3_236 : (Jvm.Cond.methodLink "SkyMargins$Text" (1 : Nat) ({ cls := "java/lang/Object", name := "<init>", desc := "()V" } : Jvm.MethodName)) ∈ pg_W := tb_3 (i := 236) rfl rfl
theorem pw3_237 : (Jvm.Cond.methodLink "SkyMargins$Text" (7 : Nat) ({ cls := "java/lang/Math", name := "min", desc := "(II)I" } : Jvm.MethodName)) ∈ pg_W := tb_3 (i := 237) rfl rfl
theorem pw3_238 : (Jvm.Cond.methodLink "SkyMargins$Text" (13 : Nat) ({ cls := "java/lang/Math", name := "max", desc := "(II)I" } : Jvm.MethodName)) ∈ pg_W := tb_3 (i := 238) rfl rfl
theorem pw3_239 : (Jvm.Cond.methodLink "SkyMargins$Text" (16 : Nat) ({ cls := "java/util/Arrays", name := "copyOf", desc := "([II)[I" } : Jvm.MethodName)) ∈ pg_W := tb_3 (i := 239) rfl rfl
theorem pw4_0 : (Jvm.Cond.static ({ cls := "java/util/Arrays", name := "copyOf", desc := "([II)[I" } : Jvm.MethodName)) ∈ pg_W := tb_4 (i := 0) rfl rfl
theorem pw4_1 : (Jvm.Cond.code ({ cls := "java/util/Arrays", name := "copyOf", desc := "([II)[I" } : Jvm.MethodName) prog_23_method_123_code (3 : Nat) (Option.some (Jvm.ClassFile.FieldType.array Jvm.ClassFile.FieldType.int))) ∈ pg_W := tb_4 (i := 1) rfl rfl
theorem pw4_9 : (Jvm.Cond.methodLink "java/util/Arrays" (304 : Nat) ({ cls := "java/lang/Math", name := "min", desc := "(II)I" } : Jvm.MethodName)) ∈ pg_W := tb_4 (i := 9) rfl rfl
theorem pw4_10 : (Jvm.Cond.methodLink "java/util/Arrays" (150 : Nat) ({ cls := "java/lang/System", name := "arraycopy", desc := "(Ljava/lang/Object;ILjava/lang/Object;II)V" } : Jvm.MethodName)) ∈ pg_W := tb_4 (i := 10) rfl rfl
theorem pw4_13 : (Jvm.Cond.fieldLink "SkyMargins$Text" (22 : Nat) "SkyMargins$Text" "codes" "[I") ∈ pg_W := tb_4 (i := 13) rfl rfl
theorem pw4_18 : (Jvm.Cond.methodLink "SkyMargins" (193 : Nat) ({ cls := "SkyMargins$Parser", name := "faultPlace", desc := "()I" } : Jvm.MethodName)) ∈ pg_W := tb_4 (i := 18) rfl rfl
theorem pw4_19 : (Jvm.Cond.instanceMethod ({ cls := "SkyMargins$Parser", name := "faultPlace", desc := "()I" } : Jvm.MethodName)) ∈ pg_W := tb_4 (i := 19) rfl rfl
theorem pw4_20 : (Jvm.Cond.selects "SkyMargins$Parser" ({ cls := "SkyMargins$Parser", name := "faultPlace", desc := "()I" } : Jvm.MethodName) ({ cls := "SkyMargins$Parser", name := "faultPlace", desc := "()I" } : Jvm.MethodName)) ∈ pg_W := tb_4 (i := 20) rfl rfl
theorem pw4_21 : (Jvm.Cond.code ({ cls := "SkyMargins$Parser", name := "faultPlace", desc := "()I" } : Jvm.MethodName) prog_5_method_2_code (1 : Nat) (Option.some Jvm.ClassFile.FieldType.int)) ∈ pg_W := tb_4 (i := 21) rfl rfl
theorem pw4_22 : (Jvm.Cond.methodLink "SkyMargins" (196 : Nat) ({ cls := "SkyMargins$Shelf", name := "addText", desc := "(LSkyMargins$Text;)I" } : Jvm.MethodName)) ∈ pg_W := tb_4 (i := 22) rfl rfl
theorem pw4_23 : (Jvm.Cond.instanceMethod ({ cls := "SkyMargins$Shelf", name := "addText", desc := "(LSkyMargins$Text;)I" } : Jvm.MethodName)) ∈ pg_W := tb_4 (i := 23) rfl rfl
theorem pw4_24 : (Jvm.Cond.selects "SkyMargins$Shelf" ({ cls := "SkyMargins$Shelf", name := "addText", desc := "(LSkyMargins$Text;)I" } : Jvm.MethodName) ({ cls := "SkyMargins$Shelf", name := "addText", desc := "(LSkyMargins$Text;)I" } : Jvm.MethodName)) ∈ pg_W := tb_4 (i := 24) rfl rfl
theorem pw4_25 : (Jvm.Cond.code ({ cls := "SkyMargins$Shelf", name := "addText", desc := "(LSkyMargins$Text;)I" } : Jvm.MethodName) prog_7_method_3_code (2 : Nat) (Option.some Jvm.ClassFile.FieldType.int)) ∈ pg_W := tb_4 (i := 25) rfl rfl
theorem pw4_26 : (Jvm.Cond.methodLink "SkyMarginsLaw" (75 : Nat) ({ cls := "SkyMargins", name := "fault", desc := "()I" } : Jvm.MethodName)) ∈ pg_W := tb_4 (i := 26) rfl rfl
theorem pw4_27 : (Jvm.Cond.instanceMethod ({ cls := "SkyMargins", name := "fault", desc := "()I" } : Jvm.MethodName)) ∈ pg_W := tb_4 (i := 27) rfl rfl
theorem pw4_28 : (Jvm.Cond.selects "SkyMargins" ({ cls := "SkyMargins", name := "fault", desc := "()I" } : Jvm.MethodName) ({ cls := "SkyMargins", name := "fault", desc := "()I" } : Jvm.MethodName)) ∈ pg_W := tb_4 (i := 28) rfl rfl
theorem pw4_29 : (Jvm.Cond.code ({ cls := "SkyMargins", name := "fault", desc := "()I" } : Jvm.MethodName) prog_1_method_16_code (1 : Nat) (Option.some Jvm.ClassFile.FieldType.int)) ∈ pg_W := tb_4 (i := 29) rfl rfl
theorem pw4_30 : (Jvm.Cond.methodLink "SkyMarginsLaw" (79 : Nat) ({ cls := "SkyMargins", name := "use", desc := "(I)I" } : Jvm.MethodName)) ∈ pg_W := tb_4 (i := 30) rfl rfl
theorem pw4_31 : (Jvm.Cond.instanceMethod ({ cls := "SkyMargins", name := "use", desc := "(I)I" } : Jvm.MethodName)) ∈ pg_W := tb_4 (i := 31) rfl rfl
theorem pw4_32 : (Jvm.Cond.selects "SkyMargins" ({ cls := "SkyMargins", name := "use", desc := "(I)I" } : Jvm.MethodName) ({ cls := "SkyMargins", name := "use", desc := "(I)I" } : Jvm.MethodName)) ∈ pg_W := tb_4 (i := 32) rfl rfl
theorem pw4_33 : (Jvm.Cond.code ({ cls := "SkyMargins", name := "use", desc := "(I)I" } : Jvm.MethodName) prog_1_method_17_code (3 : Nat) (Option.some Jvm.ClassFile.FieldType.int)) ∈ pg_W := tb_4 (i := 33) rfl rfl
theorem pw4_34 : (Jvm.Cond.methodLink "SkyMargins" (200 : Nat) ({ cls := "SkyMargins$Shelf", name := "textOf", desc := "(I)LSkyMargins$Text;" } : Jvm.MethodName)) ∈ pg_W := tb_4 (i := 34) rfl rfl
theorem pw4_35 : (Jvm.Cond.methodLink "SkyMarginsLaw" (83 : Nat) ({ cls := "SkyMargins", name := "weight", desc := "(II)I" } : Jvm.MethodName)) ∈ pg_W := tb_4 (i := 35) rfl rfl
theorem pw4_36 : (Jvm.Cond.instanceMethod ({ cls := "SkyMargins", name := "weight", desc := "(II)I" } : Jvm.MethodName)) ∈ pg_W := tb_4 (i := 36) rfl rfl
theorem pw4_37 : (Jvm.Cond.selects "SkyMargins" ({ cls := "SkyMargins", name := "weight", desc := "(II)I" } : Jvm.MethodName) ({ cls := "SkyMargins", name := "weight", desc := "(II)I" } : Jvm.MethodName)) ∈ pg_W := tb_4 (i := 37) rfl rfl
theorem pw4_38 : (Jvm.Cond.code ({ cls := "SkyMargins", name := "weight", desc := "(II)I" } : Jvm.MethodName) prog_1_method_18_code (4 : Nat) (Option.some Jvm.ClassFile.FieldType.int)) ∈ pg_W := tb_4 (i := 38) rfl rfl
theorem pw4_39 : (Jvm.Cond.methodLink "SkyMargins" (207 : Nat) ({ cls := "SkyMargins$Readings", name := "holdersOf", desc := "(II)I" } : Jvm.MethodName)) ∈ pg_W := tb_4 (i := 39) rfl rfl
theorem pw4_40 : (Jvm.Cond.methodLink "SkyMargins" (210 : Nat) ({ cls := "java/lang/Integer", name := "bitCount", desc := "(I)I" } : Jvm.MethodName)) ∈ pg_W := tb_4 (i := 40) rfl rfl
theorem pw4_41 : (Jvm.Cond.methodLink "SkyMargins" (215 : Nat) ({ cls := "SkyMargins$Asker", name := "askOfWording", desc := "(III)V" } : Jvm.MethodName)) ∈ pg_W := tb_4 (i := 41) rfl rfl
theorem pw4_42 : (Jvm.Cond.methodLink "SkyMargins" (219 : Nat) ({ cls := "SkyMargins$Shelf", name := "textUsed", desc := "()LSkyMargins$Text;" } : Jvm.MethodName)) ∈ pg_W := tb_4 (i := 42) rfl rfl
theorem pw4_43 : (Jvm.Cond.methodLink "SkyMargins" (222 : Nat) ({ cls := "SkyMargins$Asker", name := "told", desc := "(LSkyMargins$Text;II)I" } : Jvm.MethodName)) ∈ pg_W := tb_4 (i := 43) rfl rfl
theorem pw4_44 : (Jvm.Cond.methodLink "SkyMarginsLaw" (87 : Nat) ({ cls := "SkyMargins", name := "may", desc := "(II)I" } : Jvm.MethodName)) ∈ pg_W := tb_4 (i := 44) rfl rfl
theorem pw4_45 : (Jvm.Cond.instanceMethod ({ cls := "SkyMargins", name := "may", desc := "(II)I" } : Jvm.MethodName)) ∈ pg_W := tb_4 (i := 45) rfl rfl
theorem pw4_46 : (Jvm.Cond.selects "SkyMargins" ({ cls := "SkyMargins", name := "may", desc := "(II)I" } : Jvm.MethodName) ({ cls := "SkyMargins", name := "may", desc := "(II)I" } : Jvm.MethodName)) ∈ pg_W := tb_4 (i := 46) rfl rfl
theorem pw4_47 : (Jvm.Cond.code ({ cls := "SkyMargins", name := "may", desc := "(II)I" } : Jvm.MethodName) prog_1_method_19_code (3 : Nat) (Option.some Jvm.ClassFile.FieldType.int)) ∈ pg_W := tb_4 (i := 47) rfl rfl
theorem pw4_48 : (Jvm.Cond.methodLink "SkyMargins" (226 : Nat) ({ cls := "SkyMargins", name := "areTwoCopies", desc := "(II)Z" } : Jvm.MethodName)) ∈ pg_W := tb_4 (i := 48) rfl rfl
theorem pw4_50 : (Jvm.Cond.instanceMethod ({ cls := "SkyMargins", name := "areTwoCopies", desc := "(II)Z" } : Jvm.MethodName)) ∈ pg_W := tb_4 (i := 50) rfl rfl
theorem pw4_51 : (Jvm.Cond.code ({ cls := "SkyMargins", name := "areTwoCopies", desc := "(II)Z" } : Jvm.MethodName) prog_1_method_52_code (3 : Nat) (Option.some Jvm.ClassFile.FieldType.boolean)) ∈ pg_W := tb_4 (i := 51) rfl rfl
theorem pw4_52 : (Jvm.Cond.methodLink "SkyMargins" (229 : Nat) ({ cls := "SkyMargins$Shelf", name := "companions", desc := "(I)I" } : Jvm.MethodName)) ∈ pg_W := tb_4 (i := 52) rfl rfl
theorem pw4_53 : (Jvm.Cond.instanceMethod ({ cls := "SkyMargins$Shelf", name := "companions", desc := "(I)I" } : Jvm.MethodName)) ∈ pg_W := tb_4 (i := 53) rfl rfl
theorem pw4_54 : (Jvm.Cond.selects "SkyMargins$Shelf" ({ cls := "SkyMargins$Shelf", name := "companions", desc := "(I)I" } : Jvm.MethodName) ({ cls := "SkyMargins$Shelf", name := "companions", desc := "(I)I" } : Jvm.MethodName)) ∈ pg_W := tb_4 (i := 54) rfl rfl
theorem pw4_55 : (Jvm.Cond.code ({ cls := "SkyMargins$Shelf", name := "companions", desc := "(I)I" } : Jvm.MethodName) prog_7_method_15_code (6 : Nat) (Option.some Jvm.ClassFile.FieldType.int)) ∈ pg_W := tb_4 (i := 55) rfl rfl
theorem pw4_56 : (Jvm.Cond.methodLink "SkyMargins$Shelf" (86 : Nat) ({ cls := "SkyMargins$Shelf", name := "metDuring", desc := "(II)Z" } : Jvm.MethodName)) ∈ pg_W := tb_4 (i := 56) rfl rfl
theorem pw4_58 : (Jvm.Cond.instanceMethod ({ cls := "SkyMargins$Shelf", name := "metDuring", desc := "(II)Z" } : Jvm.MethodName)) ∈ pg_W := tb_4 (i := 58) rfl rfl
theorem pw4_59 : (Jvm.Cond.code ({ cls := "SkyMargins$Shelf", name := "metDuring", desc := "(II)Z" } : Jvm.MethodName) prog_7_method_16_code (7 : Nat) (Option.some Jvm.ClassFile.FieldType.boolean)) ∈ pg_W := tb_4 (i := 59) rfl rfl
theorem pw4_60 : (Jvm.Cond.methodLink "SkyMargins$Shelf" (90 : Nat) ({ cls := "SkyMargins$Shelf", name := "allCopies", desc := "()I" } : Jvm.MethodName)) ∈ pg_W := tb_4 (i := 60) rfl rfl
theorem pw4_61 : (Jvm.Cond.instanceMethod ({ cls := "SkyMargins$Shelf", name := "allCopies", desc := "()I" } : Jvm.MethodName)) ∈ pg_W := tb_4 (i := 61) rfl rfl
theorem pw4_62 : (Jvm.Cond.selects "SkyMargins$Shelf" ({ cls := "SkyMargins$Shelf", name := "allCopies", desc := "()I" } : Jvm.MethodName) ({ cls := "SkyMargins$Shelf", name := "allCopies", desc := "()I" } : Jvm.MethodName)) ∈ pg_W := tb_4 (i := 62) rfl rfl
theorem pw4_63 : (Jvm.Cond.code ({ cls := "SkyMargins$Shelf", name := "allCopies", desc := "()I" } : Jvm.MethodName) prog_7_method_6_code (1 : Nat) (Option.some Jvm.ClassFile.FieldType.int)) ∈ pg_W := tb_4 (i := 63) rfl rfl
theorem pw4_64 : (Jvm.Cond.methodLink "SkyMarginsLaw" (91 : Nat) ({ cls := "SkyMargins", name := "cost", desc := "(II)I" } : Jvm.MethodName)) ∈ pg_W := tb_4 (i := 64) rfl rfl
theorem pw4_65 : (Jvm.Cond.instanceMethod ({ cls := "SkyMargins", name := "cost", desc := "(II)I" } : Jvm.MethodName)) ∈ pg_W := tb_4 (i := 65) rfl rfl
theorem pw4_66 : (Jvm.Cond.selects "SkyMargins" ({ cls := "SkyMargins", name := "cost", desc := "(II)I" } : Jvm.MethodName) ({ cls := "SkyMargins", name := "cost", desc := "(II)I" } : Jvm.MethodName)) ∈ pg_W := tb_4 (i := 66) rfl rfl
theorem pw4_67 : (Jvm.Cond.code ({ cls := "SkyMargins", name := "cost", desc := "(II)I" } : Jvm.MethodName) prog_1_method_20_code (3 : Nat) (Option.some Jvm.ClassFile.FieldType.int)) ∈ pg_W := tb_4 (i := 67) rfl rfl
theorem pw4_68 : (Jvm.Cond.methodLink "SkyMargins" (232 : Nat) ({ cls := "SkyMargins$Readings", name := "ownCost", desc := "(LSkyMargins$Shelf;I)I" } : Jvm.MethodName)) ∈ pg_W := tb_4 (i := 68) rfl rfl
theorem pw4_69 : (Jvm.Cond.instanceMethod ({ cls := "SkyMargins$Readings", name := "ownCost", desc := "(LSkyMargins$Shelf;I)I" } : Jvm.MethodName)) ∈ pg_W := tb_4 (i := 69) rfl rfl
theorem pw4_70 : (Jvm.Cond.selects "SkyMargins$Readings" ({ cls := "SkyMargins$Readings", name := "ownCost", desc := "(LSkyMargins$Shelf;I)I" } : Jvm.MethodName) ({ cls := "SkyMargins$Readings", name := "ownCost", desc := "(LSkyMargins$Shelf;I)I" } : Jvm.MethodName)) ∈ pg_W := tb_4 (i := 70) rfl rfl
theorem pw4_71 : (Jvm.Cond.code ({ cls := "SkyMargins$Readings", name := "ownCost", desc := "(LSkyMargins$Shelf;I)I" } : Jvm.MethodName) prog_6_method_7_code (5 : Nat) (Option.some Jvm.ClassFile.FieldType.int)) ∈ pg_W := tb_4 (i := 71) rfl rfl
theorem pw4_72 : (Jvm.Cond.methodLink "SkyMargins" (235 : Nat) ({ cls := "SkyMargins$Readings", name := "costFrom", desc := "(LSkyMargins$Shelf;II)I" } : Jvm.MethodName)) ∈ pg_W := tb_4 (i := 72) rfl rfl
theorem pw4_73 : (Jvm.Cond.instanceMethod ({ cls := "SkyMargins$Readings", name := "costFrom", desc := "(LSkyMargins$Shelf;II)I" } : Jvm.MethodName)) ∈ pg_W := tb_4 (i := 73) rfl rfl
theorem pw4_74 : (Jvm.Cond.selects "SkyMargins$Readings" ({ cls := "SkyMargins$Readings", name := "costFrom", desc := "(LSkyMargins$Shelf;II)I" } : Jvm.MethodName) ({ cls := "SkyMargins$Readings", name := "costFrom", desc := "(LSkyMargins$Shelf;II)I" } : Jvm.MethodName)) ∈ pg_W := tb_4 (i := 74) rfl rfl
theorem pw4_75 : (Jvm.Cond.code ({ cls := "SkyMargins$Readings", name := "costFrom", desc := "(LSkyMargins$Shelf;II)I" } : Jvm.MethodName) prog_6_method_8_code (10 : Nat) (Option.some Jvm.ClassFile.FieldType.int)) ∈ pg_W := tb_4 (i := 75) rfl rfl
theorem pw4_76 : (Jvm.Cond.methodLink "SkyMarginsLaw" (95 : Nat) ({ cls := "SkyMargins", name := "tree", desc := "()I" } : Jvm.MethodName)) ∈ pg_W := tb_4 (i := 76) rfl rfl
theorem pw4_77 : (Jvm.Cond.instanceMethod ({ cls := "SkyMargins", name := "tree", desc := "()I" } : Jvm.MethodName)) ∈ pg_W := tb_4 (i := 77) rfl rfl
theorem pw4_78 : (Jvm.Cond.selects "SkyMargins" ({ cls := "SkyMargins", name := "tree", desc := "()I" } : Jvm.MethodName) ({ cls := "SkyMargins", name := "tree", desc := "()I" } : Jvm.MethodName)) ∈ pg_W := tb_4 (i := 78) rfl rfl
theorem pw4_79 : (Jvm.Cond.code ({ cls := "SkyMargins", name := "tree", desc := "()I" } : Jvm.MethodName) prog_1_method_21_code (1 : Nat) (Option.some Jvm.ClassFile.FieldType.int)) ∈ pg_W := tb_4 (i := 79) rfl rfl
theorem pw4_80 : (Jvm.Cond.methodLink "SkyMargins" (239 : Nat) ({ cls := "SkyMargins", name := "freshStemma", desc := "()LSkyMargins$Stemma;" } : Jvm.MethodName)) ∈ pg_W := tb_4 (i := 80) rfl rfl
theorem pw4_82 : (Jvm.Cond.instanceMethod ({ cls := "SkyMargins", name := "freshStemma", desc := "()LSkyMargins$Stemma;" } : Jvm.MethodName)) ∈ pg_W := tb_4 (i := 82) rfl rfl
theorem pw4_83 : (Jvm.Cond.code ({ cls := "SkyMargins", name := "freshStemma", desc := "()LSkyMargins$Stemma;" } : Jvm.MethodName) prog_1_method_51_code (1 : Nat) (Option.some (Jvm.ClassFile.FieldType.object "SkyMargins$Stemma"))) ∈ pg_W := tb_4 (i := 83) rfl rfl
theorem pw4_84 : (Jvm.Cond.methodLink "SkyMargins" (373 : Nat) ({ cls := "SkyMargins$Stemma", name := "grow", desc := "(LSkyMargins$Shelf;LSkyMargins$Readings;)V" } : Jvm.MethodName)) ∈ pg_W := tb_4 (i := 84) rfl rfl
theorem pw4_85 : (Jvm.Cond.instanceMethod ({ cls := "SkyMargins$Stemma", name := "grow", desc := "(LSkyMargins$Shelf;LSkyMargins$Readings;)V" } : Jvm.MethodName)) ∈ pg_W := tb_4 (i := 85) rfl rfl
theorem pw4_86 : (Jvm.Cond.selects "SkyMargins$Stemma" ({ cls := "SkyMargins$Stemma", name := "grow", desc := "(LSkyMargins$Shelf;LSkyMargins$Readings;)V" } : Jvm.MethodName) ({ cls := "SkyMargins$Stemma", name := "grow", desc := "(LSkyMargins$Shelf;LSkyMargins$Readings;)V" } : Jvm.MethodName)) ∈ pg_W := tb_4 (i := 86) rfl rfl
theorem pw4_87 : (Jvm.Cond.code ({ cls := "SkyMargins$Stemma", name := "grow", desc := "(LSkyMargins$Shelf;LSkyMargins$Readings;)V" } : Jvm.MethodName) prog_8_method_6_code (10 : Nat) (Option.none : Option Jvm.ClassFile.FieldType)) ∈ pg_W := tb_4 (i := 87) rfl rfl
theorem pw4_88 : (Jvm.Cond.methodLink "SkyMargins$Stemma" (42 : Nat) ({ cls := "SkyMargins$Stemma", name := "findCosts", desc := "(LSkyMargins$Shelf;LSkyMargins$Readings;)V" } : Jvm.MethodName)) ∈ pg_W := tb_4 (i := 88) rfl rfl
theorem pw4_90 : (Jvm.Cond.instanceMethod ({ cls := "SkyMargins$Stemma", name := "findCosts", desc := "(LSkyMargins$Shelf;LSkyMargins$Readings;)V" } : Jvm.MethodName)) ∈ pg_W := tb_4 (i := 90) rfl rfl
theorem pw4_91 : (Jvm.Cond.code ({ cls := "SkyMargins$Stemma", name := "findCosts", desc := "(LSkyMargins$Shelf;LSkyMargins$Readings;)V" } : Jvm.MethodName) prog_8_method_8_code (6 : Nat) (Option.none : Option Jvm.ClassFile.FieldType)) ∈ pg_W := tb_4 (i := 91) rfl rfl
theorem pw4_92 : (Jvm.Cond.methodLink "SkyMargins$Stemma" (61 : Nat) ({ cls := "java/util/Arrays", name := "fill", desc := "([II)V" } : Jvm.MethodName)) ∈ pg_W := tb_4 (i := 92) rfl rfl
theorem pw4_93 : (Jvm.Cond.methodLink "SkyMargins$Stemma" (73 : Nat) ({ cls := "SkyMargins$Table", name := "size", desc := "()I" } : Jvm.MethodName)) ∈ pg_W := tb_4 (i := 93) rfl rfl
theorem pw4_94 : (Jvm.Cond.methodLink "SkyMargins$Stemma" (79 : Nat) ({ cls := "java/lang/Math", name := "min", desc := "(II)I" } : Jvm.MethodName)) ∈ pg_W := tb_4 (i := 94) rfl rfl
theorem pw4_95 : (Jvm.Cond.methodLink "SkyMargins$Stemma" (85 : Nat) ({ cls := "SkyMargins$Shelf", name := "companions", desc := "(I)I" } : Jvm.MethodName)) ∈ pg_W := tb_4 (i := 95) rfl rfl
theorem pw4_96 : (Jvm.Cond.methodLink "SkyMargins$Stemma" (88 : Nat) ({ cls := "SkyMargins$Readings", name := "ownCost", desc := "(LSkyMargins$Shelf;I)I" } : Jvm.MethodName)) ∈ pg_W := tb_4 (i := 96) rfl rfl
theorem pw4_97 : (Jvm.Cond.methodLink "SkyMargins$Stemma" (94 : Nat) ({ cls := "SkyMargins$Readings", name := "costFrom", desc := "(LSkyMargins$Shelf;II)I" } : Jvm.MethodName)) ∈ pg_W := tb_4 (i := 97) rfl rfl
theorem pw4_98 : (Jvm.Cond.constantLong "SkyMargins$Stemma" (46 : Nat) (1792160394037 : Int64)) ∈ pg_W := tb_4 (i := 98) rfl rfl
theorem pw4_99 : (Jvm.Cond.constantLong "SkyMargins$Stemma" (51 : Nat) (-1 : Int64)) ∈ pg_W := tb_4 (i := 99) rfl rfl
theorem pw4_100 : (Jvm.Cond.constantLong "SkyMargins$Stemma" (53 : Nat) (23298085122481 : Int64)) ∈ pg_W := tb_4 (i := 100) rfl rfl
theorem pw4_101 : (Jvm.Cond.constantLong "SkyMargins$Stemma" (55 : Nat) (13 : Int64)) ∈ pg_W := tb_4 (i := 101) rfl rfl
theorem pw4_102 : (Jvm.Cond.methodLink "SkyMargins$Stemma" (57 : Nat) ({ cls := "SkyMargins$Stemma", name := "leastSum", desc := "()J" } : Jvm.MethodName)) ∈ pg_W := tb_4 (i := 102) rfl rfl
theorem pw4_104 : (Jvm.Cond.instanceMethod ({ cls := "SkyMargins$Stemma", name := "leastSum", desc := "()J" } : Jvm.MethodName)) ∈ pg_W := tb_4 (i := 104) rfl rfl
theorem pw4_105 : (Jvm.Cond.code ({ cls := "SkyMargins$Stemma", name := "leastSum", desc := "()J" } : Jvm.MethodName) prog_8_method_9_code (6 : Nat) (Option.some Jvm.ClassFile.FieldType.long)) ∈ pg_W := tb_4 (i := 105) rfl rfl
theorem pw4_106 : (Jvm.Cond.methodLink "SkyMargins$Stemma" (98 : Nat) ({ cls := "SkyMargins$Stemma", name := "nearestTo", desc := "(II)I" } : Jvm.MethodName)) ∈ pg_W := tb_4 (i := 106) rfl rfl
theorem pw4_108 : (Jvm.Cond.instanceMethod ({ cls := "SkyMargins$Stemma", name := "nearestTo", desc := "(II)I" } : Jvm.MethodName)) ∈ pg_W := tb_4 (i := 108) rfl rfl
theorem pw4_109 : (Jvm.Cond.code ({ cls := "SkyMargins$Stemma", name := "nearestTo", desc := "(II)I" } : Jvm.MethodName) prog_8_method_10_code (7 : Nat) (Option.some Jvm.ClassFile.FieldType.int)) ∈ pg_W := tb_4 (i := 109) rfl rfl
theorem pw4_110 : (Jvm.Cond.constantLong "SkyMargins$Stemma" (101 : Nat) (4611686018427387904 : Int64)) ∈ pg_W := tb_4 (i := 110) rfl rfl
theorem pw4_111 : (Jvm.Cond.methodLink "SkyMargins$Stemma" (103 : Nat) ({ cls := "SkyMargins$Stemma", name := "findGroups", desc := "(I)I" } : Jvm.MethodName)) ∈ pg_W := tb_4 (i := 111) rfl rfl
theorem pw4_113 : (Jvm.Cond.instanceMethod ({ cls := "SkyMargins$Stemma", name := "findGroups", desc := "(I)I" } : Jvm.MethodName)) ∈ pg_W := tb_4 (i := 113) rfl rfl
theorem pw4_114 : (Jvm.Cond.code ({ cls := "SkyMargins$Stemma", name := "findGroups", desc := "(I)I" } : Jvm.MethodName) prog_8_method_11_code (6 : Nat) (Option.some Jvm.ClassFile.FieldType.int)) ∈ pg_W := tb_4 (i := 114) rfl rfl
theorem pw4_115 : (Jvm.Cond.methodLink "SkyMargins$Stemma" (106 : Nat) ({ cls := "SkyMargins$Stemma", name := "mergeGroups", desc := "(I)V" } : Jvm.MethodName)) ∈ pg_W := tb_4 (i := 115) rfl rfl
theorem pw4_117 : (Jvm.Cond.instanceMethod ({ cls := "SkyMargins$Stemma", name := "mergeGroups", desc := "(I)V" } : Jvm.MethodName)) ∈ pg_W := tb_4 (i := 117) rfl rfl
theorem pw4_118 : (Jvm.Cond.code ({ cls := "SkyMargins$Stemma", name := "mergeGroups", desc := "(I)V" } : Jvm.MethodName) prog_8_method_12_code (9 : Nat) (Option.none : Option Jvm.ClassFile.FieldType)) ∈ pg_W := tb_4 (i := 118) rfl rfl
theorem pw4_119 : (Jvm.Cond.methodLink "SkyMargins$Stemma" (110 : Nat) ({ cls := "java/util/Arrays", name := "fill", desc := "([JJ)V" } : Jvm.MethodName)) ∈ pg_W := tb_4 (i := 119) rfl rfl
theorem pw4_120 : (Jvm.Cond.static ({ cls := "java/util/Arrays", name := "fill", desc := "([JJ)V" } : Jvm.MethodName)) ∈ pg_W := tb_4 (i := 120) rfl rfl
theorem pw4_121 : (Jvm.Cond.code ({ cls := "java/util/Arrays", name := "fill", desc := "([JJ)V" } : Jvm.MethodName) prog_23_method_101_code (5 : Nat) (Option.none : Option Jvm.ClassFile.FieldType)) ∈ pg_W := tb_4 (i := 121) rfl rfl
theorem pw4_122 : (Jvm.Cond.methodLink "SkyMargins$Stemma" (113 : Nat) ({ cls := "java/lang/System", name := "arraycopy", desc := "(Ljava/lang/Object;ILjava/lang/Object;II)V" } : Jvm.MethodName)) ∈ pg_W := tb_4 (i := 122) rfl rfl
theorem pw4_123 : (Jvm.Cond.methodLink "SkyMargins" (243 : Nat) ({ cls := "SkyMargins$Stemma", name := "leastCost", desc := "()I" } : Jvm.MethodName)) ∈ pg_W := tb_4 (i := 123) rfl rfl
theorem pw4_124 : (Jvm.Cond.instanceMethod ({ cls := "SkyMargins$Stemma", name := "leastCost", desc := "()I" } : Jvm.MethodName)) ∈ pg_W := tb_4 (i := 124) rfl rfl
theorem pw4_125 : (Jvm.Cond.selects "SkyMargins$Stemma" ({ cls := "SkyMargins$Stemma", name := "leastCost", desc := "()I" } : Jvm.MethodName) ({ cls := "SkyMargins$Stemma", name := "leastCost", desc := "()I" } : Jvm.MethodName)) ∈ pg_W := tb_4 (i := 125) rfl rfl
theorem pw4_126 : (Jvm.Cond.code ({ cls := "SkyMargins$Stemma", name := "leastCost", desc := "()I" } : Jvm.MethodName) prog_8_method_2_code (1 : Nat) (Option.some Jvm.ClassFile.FieldType.int)) ∈ pg_W := tb_4 (i := 126) rfl rfl
theorem pw4_127 : (Jvm.Cond.methodLink "SkyMarginsLaw" (99 : Nat) ({ cls := "SkyMargins", name := "whose", desc := "(I)I" } : Jvm.MethodName)) ∈ pg_W := tb_4 (i := 127) rfl rfl
theorem pw4_128 : (Jvm.Cond.instanceMethod ({ cls := "SkyMargins", name := "whose", desc := "(I)I" } : Jvm.MethodName)) ∈ pg_W := tb_4 (i := 128) rfl rfl
theorem pw4_129 : (Jvm.Cond.selects "SkyMargins" ({ cls := "SkyMargins", name := "whose", desc := "(I)I" } : Jvm.MethodName) ({ cls := "SkyMargins", name := "whose", desc := "(I)I" } : Jvm.MethodName)) ∈ pg_W := tb_4 (i := 129) rfl rfl
theorem pw4_130 : (Jvm.Cond.code ({ cls := "SkyMargins", name := "whose", desc := "(I)I" } : Jvm.MethodName) prog_1_method_22_code (3 : Nat) (Option.some Jvm.ClassFile.FieldType.int)) ∈ pg_W := tb_4 (i := 130) rfl rfl
theorem pw4_131 : (Jvm.Cond.methodLink "SkyMargins" (246 : Nat) ({ cls := "SkyMargins$Stemma", name := "exemplarOf", desc := "(I)I" } : Jvm.MethodName)) ∈ pg_W := tb_4 (i := 131) rfl rfl
theorem pw4_132 : (Jvm.Cond.instanceMethod ({ cls := "SkyMargins$Stemma", name := "exemplarOf", desc := "(I)I" } : Jvm.MethodName)) ∈ pg_W := tb_4 (i := 132) rfl rfl
theorem pw4_133 : (Jvm.Cond.selects "SkyMargins$Stemma" ({ cls := "SkyMargins$Stemma", name := "exemplarOf", desc := "(I)I" } : Jvm.MethodName) ({ cls := "SkyMargins$Stemma", name := "exemplarOf", desc := "(I)I" } : Jvm.MethodName)) ∈ pg_W := tb_4 (i := 133) rfl rfl
theorem pw4_134 : (Jvm.Cond.code ({ cls := "SkyMargins$Stemma", name := "exemplarOf", desc := "(I)I" } : Jvm.MethodName) prog_8_method_3_code (2 : Nat) (Option.some Jvm.ClassFile.FieldType.int)) ∈ pg_W := tb_4 (i := 134) rfl rfl
theorem pw4_135 : (Jvm.Cond.methodLink "SkyMarginsLaw" (103 : Nat) ({ cls := "SkyMargins", name := "sure", desc := "(I)I" } : Jvm.MethodName)) ∈ pg_W := tb_4 (i := 135) rfl rfl
theorem pw4_136 : (Jvm.Cond.instanceMethod ({ cls := "SkyMargins", name := "sure", desc := "(I)I" } : Jvm.MethodName)) ∈ pg_W := tb_4 (i := 136) rfl rfl
theorem pw4_137 : (Jvm.Cond.selects "SkyMargins" ({ cls := "SkyMargins", name := "sure", desc := "(I)I" } : Jvm.MethodName) ({ cls := "SkyMargins", name := "sure", desc := "(I)I" } : Jvm.MethodName)) ∈ pg_W := tb_4 (i := 137) rfl rfl
theorem pw4_138 : (Jvm.Cond.code ({ cls := "SkyMargins", name := "sure", desc := "(I)I" } : Jvm.MethodName) prog_1_method_23_code (2 : Nat) (Option.some Jvm.ClassFile.FieldType.int)) ∈ pg_W := tb_4 (i := 138) rfl rfl
theorem pw4_139 : (Jvm.Cond.methodLink "SkyMargins" (249 : Nat) ({ cls := "SkyMargins$Stemma", name := "isSure", desc := "(I)Z" } : Jvm.MethodName)) ∈ pg_W := tb_4 (i := 139) rfl rfl
theorem pw4_140 : (Jvm.Cond.instanceMethod ({ cls := "SkyMargins$Stemma", name := "isSure", desc := "(I)Z" } : Jvm.MethodName)) ∈ pg_W := tb_4 (i := 140) rfl rfl
theorem pw4_141 : (Jvm.Cond.selects "SkyMargins$Stemma" ({ cls := "SkyMargins$Stemma", name := "isSure", desc := "(I)Z" } : Jvm.MethodName) ({ cls := "SkyMargins$Stemma", name := "isSure", desc := "(I)Z" } : Jvm.MethodName)) ∈ pg_W := tb_4 (i := 141) rfl rfl
theorem pw4_142 : (Jvm.Cond.code ({ cls := "SkyMargins$Stemma", name := "isSure", desc := "(I)Z" } : Jvm.MethodName) prog_8_method_7_code (3 : Nat) (Option.some Jvm.ClassFile.FieldType.boolean)) ∈ pg_W := tb_4 (i := 142) rfl rfl
theorem pw4_143 : (Jvm.Cond.methodLink "SkyMargins$Stemma" (38 : Nat) ({ cls := "SkyMargins$Stemma", name := "exemplarOf", desc := "(I)I" } : Jvm.MethodName)) ∈ pg_W := tb_4 (i := 143) rfl rfl
theorem pw4_144 : (Jvm.Cond.methodLink "SkyMarginsLaw" (107 : Nat) ({ cls := "SkyMargins", name := "come", desc := "(II)I" } : Jvm.MethodName)) ∈ pg_W := tb_4 (i := 144) rfl rfl
theorem pw4_145 : (Jvm.Cond.instanceMethod ({ cls := "SkyMargins", name := "come", desc := "(II)I" } : Jvm.MethodName)) ∈ pg_W := tb_4 (i := 145) rfl rfl
theorem pw4_146 : (Jvm.Cond.selects "SkyMargins" ({ cls := "SkyMargins", name := "come", desc := "(II)I" } : Jvm.MethodName) ({ cls := "SkyMargins", name := "come", desc := "(II)I" } : Jvm.MethodName)) ∈ pg_W := tb_4 (i := 146) rfl rfl
theorem pw4_147 : (Jvm.Cond.code ({ cls := "SkyMargins", name := "come", desc := "(II)I" } : Jvm.MethodName) prog_1_method_24_code (7 : Nat) (Option.some Jvm.ClassFile.FieldType.int)) ∈ pg_W := tb_4 (i := 147) rfl rfl
theorem pw4_148 : (Jvm.Cond.methodLink "SkyMargins" (252 : Nat) ({ cls := "SkyMargins$Stemma", name := "stepsFromNobody", desc := "(I)I" } : Jvm.MethodName)) ∈ pg_W := tb_4 (i := 148) rfl rfl
theorem pw4_149 : (Jvm.Cond.instanceMethod ({ cls := "SkyMargins$Stemma", name := "stepsFromNobody", desc := "(I)I" } : Jvm.MethodName)) ∈ pg_W := tb_4 (i := 149) rfl rfl
theorem pw4_150 : (Jvm.Cond.selects "SkyMargins$Stemma" ({ cls := "SkyMargins$Stemma", name := "stepsFromNobody", desc := "(I)I" } : Jvm.MethodName) ({ cls := "SkyMargins$Stemma", name := "stepsFromNobody", desc := "(I)I" } : Jvm.MethodName)) ∈ pg_W := tb_4 (i := 150) rfl rfl
theorem pw4_151 : (Jvm.Cond.code ({ cls := "SkyMargins$Stemma", name := "stepsFromNobody", desc := "(I)I" } : Jvm.MethodName) prog_8_method_4_code (5 : Nat) (Option.some Jvm.ClassFile.FieldType.int)) ∈ pg_W := tb_4 (i := 151) rfl rfl
theorem pw4_152 : (Jvm.Cond.methodLink "SkyMargins" (255 : Nat) ({ cls := "SkyMargins$Stemma", name := "comesOf", desc := "(II)Z" } : Jvm.MethodName)) ∈ pg_W := tb_4 (i := 152) rfl rfl
theorem pw4_153 : (Jvm.Cond.instanceMethod ({ cls := "SkyMargins$Stemma", name := "comesOf", desc := "(II)Z" } : Jvm.MethodName)) ∈ pg_W := tb_4 (i := 153) rfl rfl
theorem pw4_154 : (Jvm.Cond.selects "SkyMargins$Stemma" ({ cls := "SkyMargins$Stemma", name := "comesOf", desc := "(II)Z" } : Jvm.MethodName) ({ cls := "SkyMargins$Stemma", name := "comesOf", desc := "(II)Z" } : Jvm.MethodName)) ∈ pg_W := tb_4 (i := 154) rfl rfl
theorem pw4_155 : (Jvm.Cond.code ({ cls := "SkyMargins$Stemma", name := "comesOf", desc := "(II)Z" } : Jvm.MethodName) prog_8_method_5_code (5 : Nat) (Option.some Jvm.ClassFile.FieldType.boolean)) ∈ pg_W := tb_4 (i := 155) rfl rfl
theorem pw4_156 : (Jvm.Cond.methodLink "SkyMarginsLaw" (111 : Nat) ({ cls := "SkyMargins", name := "net", desc := "(II)I" } : Jvm.MethodName)) ∈ pg_W := tb_4 (i := 156) rfl rfl
theorem pw4_157 : (Jvm.Cond.instanceMethod ({ cls := "SkyMargins", name := "net", desc := "(II)I" } : Jvm.MethodName)) ∈ pg_W := tb_4 (i := 157) rfl rfl
theorem pw4_158 : (Jvm.Cond.selects "SkyMargins" ({ cls := "SkyMargins", name := "net", desc := "(II)I" } : Jvm.MethodName) ({ cls := "SkyMargins", name := "net", desc := "(II)I" } : Jvm.MethodName)) ∈ pg_W := tb_4 (i := 158) rfl rfl
theorem pw4_159 : (Jvm.Cond.code ({ cls := "SkyMargins", name := "net", desc := "(II)I" } : Jvm.MethodName) prog_1_method_25_code (6 : Nat) (Option.some Jvm.ClassFile.FieldType.int)) ∈ pg_W := tb_4 (i := 159) rfl rfl
theorem pw4_160 : (Jvm.Cond.constant "SkyMargins" (258 : Nat) (-1000000 : Int32)) ∈ pg_W := tb_4 (i := 160) rfl rfl
theorem pw4_161 : (Jvm.Cond.methodLink "SkyMargins" (259 : Nat) ({ cls := "SkyMargins$Readings", name := "bestPair", desc := "(LSkyMargins$Shelf;I)I" } : Jvm.MethodName)) ∈ pg_W := tb_4 (i := 161) rfl rfl
theorem pw4_162 : (Jvm.Cond.instanceMethod ({ cls := "SkyMargins$Readings", name := "bestPair", desc := "(LSkyMargins$Shelf;I)I" } : Jvm.MethodName)) ∈ pg_W := tb_4 (i := 162) rfl rfl
theorem pw4_163 : (Jvm.Cond.selects "SkyMargins$Readings" ({ cls := "SkyMargins$Readings", name := "bestPair", desc := "(LSkyMargins$Shelf;I)I" } : Jvm.MethodName) ({ cls := "SkyMargins$Readings", name := "bestPair", desc := "(LSkyMargins$Shelf;I)I" } : Jvm.MethodName)) ∈ pg_W := tb_4 (i := 163) rfl rfl
theorem pw4_164 : (Jvm.Cond.code ({ cls := "SkyMargins$Readings", name := "bestPair", desc := "(LSkyMargins$Shelf;I)I" } : Jvm.MethodName) prog_6_method_9_code (10 : Nat) (Option.some Jvm.ClassFile.FieldType.int)) ∈ pg_W := tb_4 (i := 164) rfl rfl
theorem pw4_165 : (Jvm.Cond.methodLink "SkyMargins$Readings" (93 : Nat) ({ cls := "SkyMargins$Shelf", name := "companions", desc := "(I)I" } : Jvm.MethodName)) ∈ pg_W := tb_4 (i := 165) rfl rfl
theorem pw4_166 : (Jvm.Cond.methodLink "SkyMargins$Readings" (96 : Nat) ({ cls := "SkyMargins$Readings", name := "costFrom", desc := "(LSkyMargins$Shelf;II)I" } : Jvm.MethodName)) ∈ pg_W := tb_4 (i := 166) rfl rfl
theorem pw4_167 : (Jvm.Cond.methodLink "SkyMargins" (262 : Nat) ({ cls := "java/lang/Integer", name := "numberOfTrailingZeros", desc := "(I)I" } : Jvm.MethodName)) ∈ pg_W := tb_4 (i := 167) rfl rfl
theorem pw4_168 : (Jvm.Cond.static ({ cls := "java/lang/Integer", name := "numberOfTrailingZeros", desc := "(I)I" } : Jvm.MethodName)) ∈ pg_W := tb_4 (i := 168) rfl rfl
theorem pw4_169 : (Jvm.Cond.code ({ cls := "java/lang/Integer", name := "numberOfTrailingZeros", desc := "(I)I" } : Jvm.MethodName) prog_16_method_48_code (2 : Nat) (Option.some Jvm.ClassFile.FieldType.int)) ∈ pg_W := tb_4 (i := 169) rfl rfl
theorem pw4_170 : (Jvm.Cond.constant "java/lang/Integer" (264 : Nat) (65536 : Int32)) ∈ pg_W := tb_4 (i := 170) rfl rfl
theorem pw4_171 : (Jvm.Cond.methodLink "SkyMargins" (265 : Nat) ({ cls := "java/lang/Integer", name := "numberOfLeadingZeros", desc := "(I)I" } : Jvm.MethodName)) ∈ pg_W := tb_4 (i := 171) rfl rfl
theorem pw4_172 : (Jvm.Cond.static ({ cls := "java/lang/Integer", name := "numberOfLeadingZeros", desc := "(I)I" } : Jvm.MethodName)) ∈ pg_W := tb_4 (i := 172) rfl rfl
theorem pw4_173 : (Jvm.Cond.code ({ cls := "java/lang/Integer", name := "numberOfLeadingZeros", desc := "(I)I" } : Jvm.MethodName) prog_16_method_47_code (2 : Nat) (Option.some Jvm.ClassFile.FieldType.int)) ∈ pg_W := tb_4 (i := 173) rfl rfl
theorem pw4_174 : (Jvm.Cond.methodLink "SkyMargins" (268 : Nat) ({ cls := "SkyMargins$Readings", name := "bestSingleCost", desc := "(LSkyMargins$Shelf;I)I" } : Jvm.MethodName)) ∈ pg_W := tb_4 (i := 174) rfl rfl
theorem pw4_175 : (Jvm.Cond.instanceMethod ({ cls := "SkyMargins$Readings", name := "bestSingleCost", desc := "(LSkyMargins$Shelf;I)I" } : Jvm.MethodName)) ∈ pg_W := tb_4 (i := 175) rfl rfl
theorem pw4_176 : (Jvm.Cond.selects "SkyMargins$Readings" ({ cls := "SkyMargins$Readings", name := "bestSingleCost", desc := "(LSkyMargins$Shelf;I)I" } : Jvm.MethodName) ({ cls := "SkyMargins$Readings", name := "bestSingleCost", desc := "(LSkyMargins$Shelf;I)I" } : Jvm.MethodName)) ∈ pg_W := tb_4 (i := 176) rfl rfl
theorem pw4_177 : (Jvm.Cond.code ({ cls := "SkyMargins$Readings", name := "bestSingleCost", desc := "(LSkyMargins$Shelf;I)I" } : Jvm.MethodName) prog_6_method_10_code (6 : Nat) (Option.some Jvm.ClassFile.FieldType.int)) ∈ pg_W := tb_4 (i := 177) rfl rfl
theorem pw4_178 : (Jvm.Cond.methodLink "SkyMargins$Readings" (100 : Nat) ({ cls := "SkyMargins$Readings", name := "ownCost", desc := "(LSkyMargins$Shelf;I)I" } : Jvm.MethodName)) ∈ pg_W := tb_4 (i := 178) rfl rfl
theorem pw4_179 : (Jvm.Cond.methodLink "SkyMargins$Readings" (104 : Nat) ({ cls := "java/lang/Math", name := "min", desc := "(II)I" } : Jvm.MethodName)) ∈ pg_W := tb_4 (i := 179) rfl rfl
theorem pw4_180 : (Jvm.Cond.methodLink "SkyMarginsLaw" (115 : Nat) ({ cls := "SkyMargins", name := "agree", desc := "(II)I" } : Jvm.MethodName)) ∈ pg_W := tb_4 (i := 180) rfl rfl
theorem pw4_181 : (Jvm.Cond.instanceMethod ({ cls := "SkyMargins", name := "agree", desc := "(II)I" } : Jvm.MethodName)) ∈ pg_W := tb_4 (i := 181) rfl rfl
theorem pw4_182 : (Jvm.Cond.selects "SkyMargins" ({ cls := "SkyMargins", name := "agree", desc := "(II)I" } : Jvm.MethodName) ({ cls := "SkyMargins", name := "agree", desc := "(II)I" } : Jvm.MethodName)) ∈ pg_W := tb_4 (i := 182) rfl rfl
theorem pw4_183 : (Jvm.Cond.code ({ cls := "SkyMargins", name := "agree", desc := "(II)I" } : Jvm.MethodName) prog_1_method_26_code (3 : Nat) (Option.some Jvm.ClassFile.FieldType.int)) ∈ pg_W := tb_4 (i := 183) rfl rfl
theorem pw4_184 : (Jvm.Cond.methodLink "SkyMargins" (271 : Nat) ({ cls := "SkyMargins$Readings", name := "agreement", desc := "(II)I" } : Jvm.MethodName)) ∈ pg_W := tb_4 (i := 184) rfl rfl
theorem pw4_185 : (Jvm.Cond.instanceMethod ({ cls := "SkyMargins$Readings", name := "agreement", desc := "(II)I" } : Jvm.MethodName)) ∈ pg_W := tb_4 (i := 185) rfl rfl
theorem pw4_186 : (Jvm.Cond.selects "SkyMargins$Readings" ({ cls := "SkyMargins$Readings", name := "agreement", desc := "(II)I" } : Jvm.MethodName) ({ cls := "SkyMargins$Readings", name := "agreement", desc := "(II)I" } : Jvm.MethodName)) ∈ pg_W := tb_4 (i := 186) rfl rfl
theorem pw4_187 : (Jvm.Cond.code ({ cls := "SkyMargins$Readings", name := "agreement", desc := "(II)I" } : Jvm.MethodName) prog_6_method_11_code (6 : Nat) (Option.some Jvm.ClassFile.FieldType.int)) ∈ pg_W := tb_4 (i := 187) rfl rfl
theorem pw4_188 : (Jvm.Cond.methodLink "SkyMarginsLaw" (119 : Nat) ({ cls := "SkyMargins", name := "families", desc := "()I" } : Jvm.MethodName)) ∈ pg_W := tb_4 (i := 188) rfl rfl
theorem pw4_189 : (Jvm.Cond.instanceMethod ({ cls := "SkyMargins", name := "families", desc := "()I" } : Jvm.MethodName)) ∈ pg_W := tb_4 (i := 189) rfl rfl
theorem pw4_190 : (Jvm.Cond.selects "SkyMargins" ({ cls := "SkyMargins", name := "families", desc := "()I" } : Jvm.MethodName) ({ cls := "SkyMargins", name := "families", desc := "()I" } : Jvm.MethodName)) ∈ pg_W := tb_4 (i := 190) rfl rfl
theorem pw4_191 : (Jvm.Cond.code ({ cls := "SkyMargins", name := "families", desc := "()I" } : Jvm.MethodName) prog_1_method_27_code (2 : Nat) (Option.some Jvm.ClassFile.FieldType.int)) ∈ pg_W := tb_4 (i := 191) rfl rfl
theorem pw4_192 : (Jvm.Cond.methodLink "SkyMargins" (274 : Nat) ({ cls := "SkyMargins$Shelf", name := "allCopies", desc := "()I" } : Jvm.MethodName)) ∈ pg_W := tb_4 (i := 192) rfl rfl
theorem pw4_193 : (Jvm.Cond.methodLink "SkyMargins" (277 : Nat) ({ cls := "SkyMargins$Readings", name := "familiesOf", desc := "(LSkyMargins$Shelf;II)I" } : Jvm.MethodName)) ∈ pg_W := tb_4 (i := 193) rfl rfl
theorem pw4_194 : (Jvm.Cond.instanceMethod ({ cls := "SkyMargins$Readings", name := "familiesOf", desc := "(LSkyMargins$Shelf;II)I" } : Jvm.MethodName)) ∈ pg_W := tb_4 (i := 194) rfl rfl
theorem pw4_195 : (Jvm.Cond.selects "SkyMargins$Readings" ({ cls := "SkyMargins$Readings", name := "familiesOf", desc := "(LSkyMargins$Shelf;II)I" } : Jvm.MethodName) ({ cls := "SkyMargins$Readings", name := "familiesOf", desc := "(LSkyMargins$Shelf;II)I" } : Jvm.MethodName)) ∈ pg_W := tb_4 (i := 195) rfl rfl
theorem pw4_196 : (Jvm.Cond.code ({ cls := "SkyMargins$Readings", name := "familiesOf", desc := "(LSkyMargins$Shelf;II)I" } : Jvm.MethodName) prog_6_method_12_code (8 : Nat) (Option.some Jvm.ClassFile.FieldType.int)) ∈ pg_W := tb_4 (i := 196) rfl rfl
theorem pw4_197 : (Jvm.Cond.methodLink "SkyMargins$Readings" (109 : Nat) ({ cls := "SkyMargins$Readings", name := "findNear", desc := "(LSkyMargins$Shelf;)V" } : Jvm.MethodName)) ∈ pg_W := tb_4 (i := 197) rfl rfl
theorem pw4_199 : (Jvm.Cond.instanceMethod ({ cls := "SkyMargins$Readings", name := "findNear", desc := "(LSkyMargins$Shelf;)V" } : Jvm.MethodName)) ∈ pg_W := tb_4 (i := 199) rfl rfl
theorem pw4_200 : (Jvm.Cond.code ({ cls := "SkyMargins$Readings", name := "findNear", desc := "(LSkyMargins$Shelf;)V" } : Jvm.MethodName) prog_6_method_14_code (5 : Nat) (Option.none : Option Jvm.ClassFile.FieldType)) ∈ pg_W := tb_4 (i := 200) rfl rfl
theorem pw4_201 : (Jvm.Cond.methodLink "SkyMargins$Readings" (119 : Nat) ({ cls := "SkyMargins$Readings", name := "agreement", desc := "(II)I" } : Jvm.MethodName)) ∈ pg_W := tb_4 (i := 201) rfl rfl
theorem pw4_202 : (Jvm.Cond.methodLink "SkyMargins$Readings" (113 : Nat) ({ cls := "SkyMargins$Readings", name := "spread", desc := "(II)I" } : Jvm.MethodName)) ∈ pg_W := tb_4 (i := 202) rfl rfl
theorem pw4_204 : (Jvm.Cond.instanceMethod ({ cls := "SkyMargins$Readings", name := "spread", desc := "(II)I" } : Jvm.MethodName)) ∈ pg_W := tb_4 (i := 204) rfl rfl
theorem pw4_205 : (Jvm.Cond.code ({ cls := "SkyMargins$Readings", name := "spread", desc := "(II)I" } : Jvm.MethodName) prog_6_method_15_code (7 : Nat) (Option.some Jvm.ClassFile.FieldType.int)) ∈ pg_W := tb_4 (i := 205) rfl rfl
theorem pw4_206 : (Jvm.Cond.methodLink "SkyMarginsLaw" (123 : Nat) ({ cls := "SkyMargins", name := "family", desc := "(I)I" } : Jvm.MethodName)) ∈ pg_W := tb_4 (i := 206) rfl rfl
theorem pw4_207 : (Jvm.Cond.instanceMethod ({ cls := "SkyMargins", name := "family", desc := "(I)I" } : Jvm.MethodName)) ∈ pg_W := tb_4 (i := 207) rfl rfl
theorem pw4_208 : (Jvm.Cond.selects "SkyMargins" ({ cls := "SkyMargins", name := "family", desc := "(I)I" } : Jvm.MethodName) ({ cls := "SkyMargins", name := "family", desc := "(I)I" } : Jvm.MethodName)) ∈ pg_W := tb_4 (i := 208) rfl rfl
theorem pw4_209 : (Jvm.Cond.code ({ cls := "SkyMargins", name := "family", desc := "(I)I" } : Jvm.MethodName) prog_1_method_28_code (3 : Nat) (Option.some Jvm.ClassFile.FieldType.int)) ∈ pg_W := tb_4 (i := 209) rfl rfl
theorem pw4_210 : (Jvm.Cond.methodLink "SkyMargins" (280 : Nat) ({ cls := "SkyMargins$Readings", name := "familyOf", desc := "(LSkyMargins$Shelf;II)I" } : Jvm.MethodName)) ∈ pg_W := tb_4 (i := 210) rfl rfl
theorem pw4_211 : (Jvm.Cond.instanceMethod ({ cls := "SkyMargins$Readings", name := "familyOf", desc := "(LSkyMargins$Shelf;II)I" } : Jvm.MethodName)) ∈ pg_W := tb_4 (i := 211) rfl rfl
theorem pw4_212 : (Jvm.Cond.selects "SkyMargins$Readings" ({ cls := "SkyMargins$Readings", name := "familyOf", desc := "(LSkyMargins$Shelf;II)I" } : Jvm.MethodName) ({ cls := "SkyMargins$Readings", name := "familyOf", desc := "(LSkyMargins$Shelf;II)I" } : Jvm.MethodName)) ∈ pg_W := tb_4 (i := 212) rfl rfl
theorem pw4_213 : (Jvm.Cond.code ({ cls := "SkyMargins$Readings", name := "familyOf", desc := "(LSkyMargins$Shelf;II)I" } : Jvm.MethodName) prog_6_method_13_code (4 : Nat) (Option.some Jvm.ClassFile.FieldType.int)) ∈ pg_W := tb_4 (i := 213) rfl rfl
theorem pw4_214 : (Jvm.Cond.methodLink "SkyMarginsLaw" (127 : Nat) ({ cls := "SkyMargins", name := "joins", desc := "(I)I" } : Jvm.MethodName)) ∈ pg_W := tb_4 (i := 214) rfl rfl
theorem pw4_215 : (Jvm.Cond.instanceMethod ({ cls := "SkyMargins", name := "joins", desc := "(I)I" } : Jvm.MethodName)) ∈ pg_W := tb_4 (i := 215) rfl rfl
theorem pw4_216 : (Jvm.Cond.selects "SkyMargins" ({ cls := "SkyMargins", name := "joins", desc := "(I)I" } : Jvm.MethodName) ({ cls := "SkyMargins", name := "joins", desc := "(I)I" } : Jvm.MethodName)) ∈ pg_W := tb_4 (i := 216) rfl rfl
theorem pw4_217 : (Jvm.Cond.code ({ cls := "SkyMargins", name := "joins", desc := "(I)I" } : Jvm.MethodName) prog_1_method_29_code (5 : Nat) (Option.some Jvm.ClassFile.FieldType.int)) ∈ pg_W := tb_4 (i := 217) rfl rfl
theorem pw4_218 : (Jvm.Cond.methodLink "SkyMarginsLaw" (131 : Nat) ({ cls := "SkyMargins", name := "times", desc := "(III)I" } : Jvm.MethodName)) ∈ pg_W := tb_4 (i := 218) rfl rfl
theorem pw4_219 : (Jvm.Cond.instanceMethod ({ cls := "SkyMargins", name := "times", desc := "(III)I" } : Jvm.MethodName)) ∈ pg_W := tb_4 (i := 219) rfl rfl
theorem pw4_220 : (Jvm.Cond.selects "SkyMargins" ({ cls := "SkyMargins", name := "times", desc := "(III)I" } : Jvm.MethodName) ({ cls := "SkyMargins", name := "times", desc := "(III)I" } : Jvm.MethodName)) ∈ pg_W := tb_4 (i := 220) rfl rfl
theorem pw4_221 : (Jvm.Cond.code ({ cls := "SkyMargins", name := "times", desc := "(III)I" } : Jvm.MethodName) prog_1_method_30_code (4 : Nat) (Option.some Jvm.ClassFile.FieldType.int)) ∈ pg_W := tb_4 (i := 221) rfl rfl
theorem pw4_222 : (Jvm.Cond.methodLink "SkyMargins" (283 : Nat) ({ cls := "SkyMargins$Odds", name := "timesAsLikely", desc := "(LSkyMargins$Shelf;III)I" } : Jvm.MethodName)) ∈ pg_W := tb_4 (i := 222) rfl rfl
theorem pw4_223 : (Jvm.Cond.instanceMethod ({ cls := "SkyMargins$Odds", name := "timesAsLikely", desc := "(LSkyMargins$Shelf;III)I" } : Jvm.MethodName)) ∈ pg_W := tb_4 (i := 223) rfl rfl
theorem pw4_224 : (Jvm.Cond.selects "SkyMargins$Odds" ({ cls := "SkyMargins$Odds", name := "timesAsLikely", desc := "(LSkyMargins$Shelf;III)I" } : Jvm.MethodName) ({ cls := "SkyMargins$Odds", name := "timesAsLikely", desc := "(LSkyMargins$Shelf;III)I" } : Jvm.MethodName)) ∈ pg_W := tb_4 (i := 224) rfl rfl
theorem pw4_225 : (Jvm.Cond.code ({ cls := "SkyMargins$Odds", name := "timesAsLikely", desc := "(LSkyMargins$Shelf;III)I" } : Jvm.MethodName) prog_4_method_2_code (5 : Nat) (Option.some Jvm.ClassFile.FieldType.int)) ∈ pg_W := tb_4 (i := 225) rfl rfl
theorem pw4_226 : (Jvm.Cond.methodLink "SkyMargins$Odds" (31 : Nat) ({ cls := "SkyMargins$Odds", name := "weigh", desc := "(LSkyMargins$Shelf;III)V" } : Jvm.MethodName)) ∈ pg_W := tb_4 (i := 226) rfl rfl
theorem pw4_228 : (Jvm.Cond.instanceMethod ({ cls := "SkyMargins$Odds", name := "weigh", desc := "(LSkyMargins$Shelf;III)V" } : Jvm.MethodName)) ∈ pg_W := tb_4 (i := 228) rfl rfl
theorem pw4_229 : (Jvm.Cond.code ({ cls := "SkyMargins$Odds", name := "weigh", desc := "(LSkyMargins$Shelf;III)V" } : Jvm.MethodName) prog_4_method_4_code (12 : Nat) (Option.none : Option Jvm.ClassFile.FieldType)) ∈ pg_W := tb_4 (i := 229) rfl rfl
theorem pw4_230 : (Jvm.Cond.methodLink "SkyMargins$Odds" (54 : Nat) ({ cls := "SkyMargins$Big", name := "become", desc := "(I)V" } : Jvm.MethodName)) ∈ pg_W := tb_4 (i := 230) rfl rfl
theorem pw4_231 : (Jvm.Cond.instanceMethod ({ cls := "SkyMargins$Big", name := "become", desc := "(I)V" } : Jvm.MethodName)) ∈ pg_W := tb_4 (i := 231) rfl rfl
theorem pw4_232 : (Jvm.Cond.selects "SkyMargins$Big" ({ cls := "SkyMargins$Big", name := "become", desc := "(I)V" } : Jvm.MethodName) ({ cls := "SkyMargins$Big", name := "become", desc := "(I)V" } : Jvm.MethodName)) ∈ pg_W := tb_4 (i := 232) rfl rfl
theorem pw4_233 : (Jvm.Cond.code ({ cls := "SkyMargins$Big", name := "become", desc := "(I)V" } : Jvm.MethodName) prog_3_method_2_code (2 : Nat) (Option.none : Option Jvm.ClassFile.FieldType)) ∈ pg_W := tb_4 (i := 233) rfl rfl
theorem pw4_234 : (Jvm.Cond.constantLong "SkyMargins$Big" (17 : Nat) (1073741823 : Int64)) ∈ pg_W := tb_4 (i := 234) rfl rfl
theorem pw4_235 : (Jvm.Cond.methodLink "SkyMargins$Odds" (61 : Nat) ({ cls := "SkyMargins$Table", name := "at", desc := "(II)I" } : Jvm.MethodName)) ∈ pg_W := tb_4 (i := 235) rfl rfl
theorem pw4_236 : (Jvm.Cond.methodLink "SkyMargins$Odds" (65 : Nat) ({ cls := "SkyMargins$Odds", name := "weighFactor", desc := "(III)V" } : Jvm.MethodName)) ∈ pg_W := tb_4 (i := 236) rfl rfl
theorem pw4_238 : (Jvm.Cond.instanceMethod ({ cls := "SkyMargins$Odds", name := "weighFactor", desc := "(III)V" } : Jvm.MethodName)) ∈ pg_W := tb_4 (i := 238) rfl rfl
theorem pw4_239 : (Jvm.Cond.code ({ cls := "SkyMargins$Odds", name := "weighFactor", desc := "(III)V" } : Jvm.MethodName) prog_4_method_5_code (5 : Nat) (Option.none : Option Jvm.ClassFile.FieldType)) ∈ pg_W := tb_4 (i := 239) rfl rfl
theorem pw5_0 : (Jvm.Cond.methodLink "SkyMargins$Odds" (69 : Nat) ({ cls := "SkyMargins$Odds", name := "commonFactor", desc := "(II)I" } : Jvm.MethodName)) ∈ pg_W := tb_5 (i := 0) rfl rfl
theorem pw5_1 : (Jvm.Cond.static ({ cls := "SkyMargins$Odds", name := "commonFactor", desc := "(II)I" } : Jvm.MethodName)) ∈ pg_W := tb_5 (i := 1) rfl rfl
theorem pw5_2 : (Jvm.Cond.code ({ cls := "SkyMargins$Odds", name := "commonFactor", desc := "(II)I" } : Jvm.MethodName) prog_4_method_6_code (6 : Nat) (Option.some Jvm.ClassFile.FieldType.int)) ∈ pg_W := tb_5 (i := 2) rfl rfl
theorem pw5_3 : (Jvm.Cond.methodLink "SkyMargins$Odds" (72 : Nat) ({ cls := "SkyMargins$Big", name := "multiplyOften", desc := "(II)V" } : Jvm.MethodName)) ∈ pg_W := tb_5 (i := 3) rfl rfl
theorem pw5_4 : (Jvm.Cond.instanceMethod ({ cls := "SkyMargins$Big", name := "multiplyOften", desc := "(II)V" } : Jvm.MethodName)) ∈ pg_W := tb_5 (i := 4) rfl rfl
theorem pw5_5 : (Jvm.Cond.selects "SkyMargins$Big" ({ cls := "SkyMargins$Big", name := "multiplyOften", desc := "(II)V" } : Jvm.MethodName) ({ cls := "SkyMargins$Big", name := "multiplyOften", desc := "(II)V" } : Jvm.MethodName)) ∈ pg_W := tb_5 (i := 5) rfl rfl
theorem pw5_6 : (Jvm.Cond.code ({ cls := "SkyMargins$Big", name := "multiplyOften", desc := "(II)V" } : Jvm.MethodName) prog_3_method_6_code (6 : Nat) (Option.none : Option Jvm.ClassFile.FieldType)) ∈ pg_W := tb_5 (i := 6) rfl rfl
theorem pw5_7 : (Jvm.Cond.constantLong "SkyMargins$Big" (31 : Nat) (2147483647 : Int64)) ∈ pg_W := tb_5 (i := 7) rfl rfl
theorem pw5_8 : (Jvm.Cond.methodLink "SkyMargins$Big" (33 : Nat) ({ cls := "SkyMargins$Big", name := "multiply", desc := "(J)V" } : Jvm.MethodName)) ∈ pg_W := tb_5 (i := 8) rfl rfl
theorem pw5_9 : (Jvm.Cond.instanceMethod ({ cls := "SkyMargins$Big", name := "multiply", desc := "(J)V" } : Jvm.MethodName)) ∈ pg_W := tb_5 (i := 9) rfl rfl
theorem pw5_10 : (Jvm.Cond.selects "SkyMargins$Big" ({ cls := "SkyMargins$Big", name := "multiply", desc := "(J)V" } : Jvm.MethodName) ({ cls := "SkyMargins$Big", name := "multiply", desc := "(J)V" } : Jvm.MethodName)) ∈ pg_W := tb_5 (i := 10) rfl rfl
theorem pw5_11 : (Jvm.Cond.code ({ cls := "SkyMargins$Big", name := "multiply", desc := "(J)V" } : Jvm.MethodName) prog_3_method_5_code (8 : Nat) (Option.none : Option Jvm.ClassFile.FieldType)) ∈ pg_W := tb_5 (i := 11) rfl rfl
theorem pw5_12 : (Jvm.Cond.methodLink "SkyMargins$Odds" (35 : Nat) ({ cls := "SkyMargins$Odds", name := "topThroughBottom", desc := "()I" } : Jvm.MethodName)) ∈ pg_W := tb_5 (i := 12) rfl rfl
theorem pw5_14 : (Jvm.Cond.instanceMethod ({ cls := "SkyMargins$Odds", name := "topThroughBottom", desc := "()I" } : Jvm.MethodName)) ∈ pg_W := tb_5 (i := 14) rfl rfl
theorem pw5_15 : (Jvm.Cond.code ({ cls := "SkyMargins$Odds", name := "topThroughBottom", desc := "()I" } : Jvm.MethodName) prog_4_method_7_code (5 : Nat) (Option.some Jvm.ClassFile.FieldType.int)) ∈ pg_W := tb_5 (i := 15) rfl rfl
theorem pw5_16 : (Jvm.Cond.constant "SkyMargins$Odds" (76 : Nat) (1000000 : Int32)) ∈ pg_W := tb_5 (i := 16) rfl rfl
theorem pw5_17 : (Jvm.Cond.methodLink "SkyMargins$Odds" (77 : Nat) ({ cls := "SkyMargins$Big", name := "takeFrom", desc := "(LSkyMargins$Big;)V" } : Jvm.MethodName)) ∈ pg_W := tb_5 (i := 17) rfl rfl
theorem pw5_18 : (Jvm.Cond.instanceMethod ({ cls := "SkyMargins$Big", name := "takeFrom", desc := "(LSkyMargins$Big;)V" } : Jvm.MethodName)) ∈ pg_W := tb_5 (i := 18) rfl rfl
theorem pw5_19 : (Jvm.Cond.selects "SkyMargins$Big" ({ cls := "SkyMargins$Big", name := "takeFrom", desc := "(LSkyMargins$Big;)V" } : Jvm.MethodName) ({ cls := "SkyMargins$Big", name := "takeFrom", desc := "(LSkyMargins$Big;)V" } : Jvm.MethodName)) ∈ pg_W := tb_5 (i := 19) rfl rfl
theorem pw5_20 : (Jvm.Cond.code ({ cls := "SkyMargins$Big", name := "takeFrom", desc := "(LSkyMargins$Big;)V" } : Jvm.MethodName) prog_3_method_3_code (2 : Nat) (Option.none : Option Jvm.ClassFile.FieldType)) ∈ pg_W := tb_5 (i := 20) rfl rfl
theorem pw5_21 : (Jvm.Cond.methodLink "SkyMargins$Big" (19 : Nat) ({ cls := "java/lang/Math", name := "min", desc := "(II)I" } : Jvm.MethodName)) ∈ pg_W := tb_5 (i := 21) rfl rfl
theorem pw5_22 : (Jvm.Cond.methodLink "SkyMargins$Big" (25 : Nat) ({ cls := "java/lang/System", name := "arraycopy", desc := "(Ljava/lang/Object;ILjava/lang/Object;II)V" } : Jvm.MethodName)) ∈ pg_W := tb_5 (i := 22) rfl rfl
theorem pw5_23 : (Jvm.Cond.methodLink "SkyMargins$Odds" (81 : Nat) ({ cls := "SkyMargins$Big", name := "multiply", desc := "(J)V" } : Jvm.MethodName)) ∈ pg_W := tb_5 (i := 23) rfl rfl
theorem pw5_24 : (Jvm.Cond.methodLink "SkyMargins$Odds" (50 : Nat) ({ cls := "SkyMargins$Big", name := "isMoreThan", desc := "(LSkyMargins$Big;)Z" } : Jvm.MethodName)) ∈ pg_W := tb_5 (i := 24) rfl rfl
theorem pw5_25 : (Jvm.Cond.instanceMethod ({ cls := "SkyMargins$Big", name := "isMoreThan", desc := "(LSkyMargins$Big;)Z" } : Jvm.MethodName)) ∈ pg_W := tb_5 (i := 25) rfl rfl
theorem pw5_26 : (Jvm.Cond.selects "SkyMargins$Big" ({ cls := "SkyMargins$Big", name := "isMoreThan", desc := "(LSkyMargins$Big;)Z" } : Jvm.MethodName) ({ cls := "SkyMargins$Big", name := "isMoreThan", desc := "(LSkyMargins$Big;)Z" } : Jvm.MethodName)) ∈ pg_W := tb_5 (i := 26) rfl rfl
theorem pw5_27 : (Jvm.Cond.code ({ cls := "SkyMargins$Big", name := "isMoreThan", desc := "(LSkyMargins$Big;)Z" } : Jvm.MethodName) prog_3_method_8_code (3 : Nat) (Option.some Jvm.ClassFile.FieldType.boolean)) ∈ pg_W := tb_5 (i := 27) rfl rfl
theorem pw5_28 : (Jvm.Cond.methodLink "SkyMarginsLaw" (135 : Nat) ({ cls := "SkyMargins", name := "written", desc := "(I)I" } : Jvm.MethodName)) ∈ pg_W := tb_5 (i := 28) rfl rfl
theorem pw5_29 : (Jvm.Cond.instanceMethod ({ cls := "SkyMargins", name := "written", desc := "(I)I" } : Jvm.MethodName)) ∈ pg_W := tb_5 (i := 29) rfl rfl
theorem pw5_30 : (Jvm.Cond.selects "SkyMargins" ({ cls := "SkyMargins", name := "written", desc := "(I)I" } : Jvm.MethodName) ({ cls := "SkyMargins", name := "written", desc := "(I)I" } : Jvm.MethodName)) ∈ pg_W := tb_5 (i := 30) rfl rfl
theorem pw5_31 : (Jvm.Cond.code ({ cls := "SkyMargins", name := "written", desc := "(I)I" } : Jvm.MethodName) prog_1_method_31_code (2 : Nat) (Option.some Jvm.ClassFile.FieldType.int)) ∈ pg_W := tb_5 (i := 31) rfl rfl
theorem pw5_32 : (Jvm.Cond.methodLink "SkyMargins" (287 : Nat) ({ cls := "SkyMargins$Odds", name := "likeliestHand", desc := "(LSkyMargins$Shelf;I)I" } : Jvm.MethodName)) ∈ pg_W := tb_5 (i := 32) rfl rfl
theorem pw5_33 : (Jvm.Cond.instanceMethod ({ cls := "SkyMargins$Odds", name := "likeliestHand", desc := "(LSkyMargins$Shelf;I)I" } : Jvm.MethodName)) ∈ pg_W := tb_5 (i := 33) rfl rfl
theorem pw5_34 : (Jvm.Cond.selects "SkyMargins$Odds" ({ cls := "SkyMargins$Odds", name := "likeliestHand", desc := "(LSkyMargins$Shelf;I)I" } : Jvm.MethodName) ({ cls := "SkyMargins$Odds", name := "likeliestHand", desc := "(LSkyMargins$Shelf;I)I" } : Jvm.MethodName)) ∈ pg_W := tb_5 (i := 34) rfl rfl
theorem pw5_35 : (Jvm.Cond.code ({ cls := "SkyMargins$Odds", name := "likeliestHand", desc := "(LSkyMargins$Shelf;I)I" } : Jvm.MethodName) prog_4_method_3_code (5 : Nat) (Option.some Jvm.ClassFile.FieldType.int)) ∈ pg_W := tb_5 (i := 35) rfl rfl
theorem pw5_36 : (Jvm.Cond.methodLink "SkyMargins$Odds" (45 : Nat) ({ cls := "SkyMargins$Table", name := "size", desc := "()I" } : Jvm.MethodName)) ∈ pg_W := tb_5 (i := 36) rfl rfl
theorem pw5_37 : (Jvm.Cond.methodLink "SkyMarginsLaw" (139 : Nat) ({ cls := "SkyMargins", name := "towns", desc := "(I)I" } : Jvm.MethodName)) ∈ pg_W := tb_5 (i := 37) rfl rfl
theorem pw5_38 : (Jvm.Cond.instanceMethod ({ cls := "SkyMargins", name := "towns", desc := "(I)I" } : Jvm.MethodName)) ∈ pg_W := tb_5 (i := 38) rfl rfl
theorem pw5_39 : (Jvm.Cond.selects "SkyMargins" ({ cls := "SkyMargins", name := "towns", desc := "(I)I" } : Jvm.MethodName) ({ cls := "SkyMargins", name := "towns", desc := "(I)I" } : Jvm.MethodName)) ∈ pg_W := tb_5 (i := 39) rfl rfl
theorem pw5_40 : (Jvm.Cond.code ({ cls := "SkyMargins", name := "towns", desc := "(I)I" } : Jvm.MethodName) prog_1_method_32_code (8 : Nat) (Option.some Jvm.ClassFile.FieldType.int)) ∈ pg_W := tb_5 (i := 40) rfl rfl
theorem pw5_41 : (Jvm.Cond.methodLink "SkyMargins" (290 : Nat) ({ cls := "SkyMargins$Shelf", name := "copiesWithHand", desc := "(I)I" } : Jvm.MethodName)) ∈ pg_W := tb_5 (i := 41) rfl rfl
theorem pw5_42 : (Jvm.Cond.instanceMethod ({ cls := "SkyMargins$Shelf", name := "copiesWithHand", desc := "(I)I" } : Jvm.MethodName)) ∈ pg_W := tb_5 (i := 42) rfl rfl
theorem pw5_43 : (Jvm.Cond.selects "SkyMargins$Shelf" ({ cls := "SkyMargins$Shelf", name := "copiesWithHand", desc := "(I)I" } : Jvm.MethodName) ({ cls := "SkyMargins$Shelf", name := "copiesWithHand", desc := "(I)I" } : Jvm.MethodName)) ∈ pg_W := tb_5 (i := 43) rfl rfl
theorem pw5_44 : (Jvm.Cond.code ({ cls := "SkyMargins$Shelf", name := "copiesWithHand", desc := "(I)I" } : Jvm.MethodName) prog_7_method_12_code (4 : Nat) (Option.some Jvm.ClassFile.FieldType.int)) ∈ pg_W := tb_5 (i := 44) rfl rfl
theorem pw5_45 : (Jvm.Cond.methodLink "SkyMarginsLaw" (143 : Nat) ({ cls := "SkyMargins", name := "dates", desc := "(II)I" } : Jvm.MethodName)) ∈ pg_W := tb_5 (i := 45) rfl rfl
theorem pw5_46 : (Jvm.Cond.instanceMethod ({ cls := "SkyMargins", name := "dates", desc := "(II)I" } : Jvm.MethodName)) ∈ pg_W := tb_5 (i := 46) rfl rfl
theorem pw5_47 : (Jvm.Cond.selects "SkyMargins" ({ cls := "SkyMargins", name := "dates", desc := "(II)I" } : Jvm.MethodName) ({ cls := "SkyMargins", name := "dates", desc := "(II)I" } : Jvm.MethodName)) ∈ pg_W := tb_5 (i := 47) rfl rfl
theorem pw5_48 : (Jvm.Cond.code ({ cls := "SkyMargins", name := "dates", desc := "(II)I" } : Jvm.MethodName) prog_1_method_33_code (4 : Nat) (Option.some Jvm.ClassFile.FieldType.int)) ∈ pg_W := tb_5 (i := 48) rfl rfl
theorem pw5_49 : (Jvm.Cond.methodLink "SkyMargins" (293 : Nat) ({ cls := "SkyMargins$Shelf", name := "firstYear", desc := "(I)I" } : Jvm.MethodName)) ∈ pg_W := tb_5 (i := 49) rfl rfl
theorem pw5_50 : (Jvm.Cond.instanceMethod ({ cls := "SkyMargins$Shelf", name := "firstYear", desc := "(I)I" } : Jvm.MethodName)) ∈ pg_W := tb_5 (i := 50) rfl rfl
theorem pw5_51 : (Jvm.Cond.selects "SkyMargins$Shelf" ({ cls := "SkyMargins$Shelf", name := "firstYear", desc := "(I)I" } : Jvm.MethodName) ({ cls := "SkyMargins$Shelf", name := "firstYear", desc := "(I)I" } : Jvm.MethodName)) ∈ pg_W := tb_5 (i := 51) rfl rfl
theorem pw5_52 : (Jvm.Cond.code ({ cls := "SkyMargins$Shelf", name := "firstYear", desc := "(I)I" } : Jvm.MethodName) prog_7_method_17_code (7 : Nat) (Option.some Jvm.ClassFile.FieldType.int)) ∈ pg_W := tb_5 (i := 52) rfl rfl
theorem pw5_53 : (Jvm.Cond.methodLink "SkyMargins$Shelf" (93 : Nat) ({ cls := "SkyMargins$Shelf", name := "handsIn", desc := "(I)I" } : Jvm.MethodName)) ∈ pg_W := tb_5 (i := 53) rfl rfl
theorem pw5_55 : (Jvm.Cond.instanceMethod ({ cls := "SkyMargins$Shelf", name := "handsIn", desc := "(I)I" } : Jvm.MethodName)) ∈ pg_W := tb_5 (i := 55) rfl rfl
theorem pw5_56 : (Jvm.Cond.code ({ cls := "SkyMargins$Shelf", name := "handsIn", desc := "(I)I" } : Jvm.MethodName) prog_7_method_19_code (6 : Nat) (Option.some Jvm.ClassFile.FieldType.int)) ∈ pg_W := tb_5 (i := 56) rfl rfl
theorem pw5_57 : (Jvm.Cond.methodLink "SkyMargins$Shelf" (97 : Nat) ({ cls := "java/lang/Math", name := "max", desc := "(II)I" } : Jvm.MethodName)) ∈ pg_W := tb_5 (i := 57) rfl rfl
theorem pw5_58 : (Jvm.Cond.methodLink "SkyMargins$Shelf" (102 : Nat) ({ cls := "java/lang/Math", name := "min", desc := "(II)I" } : Jvm.MethodName)) ∈ pg_W := tb_5 (i := 58) rfl rfl
theorem pw5_59 : (Jvm.Cond.methodLink "SkyMargins" (296 : Nat) ({ cls := "SkyMargins$Shelf", name := "lastYear", desc := "(I)I" } : Jvm.MethodName)) ∈ pg_W := tb_5 (i := 59) rfl rfl
theorem pw5_60 : (Jvm.Cond.instanceMethod ({ cls := "SkyMargins$Shelf", name := "lastYear", desc := "(I)I" } : Jvm.MethodName)) ∈ pg_W := tb_5 (i := 60) rfl rfl
theorem pw5_61 : (Jvm.Cond.selects "SkyMargins$Shelf" ({ cls := "SkyMargins$Shelf", name := "lastYear", desc := "(I)I" } : Jvm.MethodName) ({ cls := "SkyMargins$Shelf", name := "lastYear", desc := "(I)I" } : Jvm.MethodName)) ∈ pg_W := tb_5 (i := 61) rfl rfl
theorem pw5_62 : (Jvm.Cond.code ({ cls := "SkyMargins$Shelf", name := "lastYear", desc := "(I)I" } : Jvm.MethodName) prog_7_method_18_code (6 : Nat) (Option.some Jvm.ClassFile.FieldType.int)) ∈ pg_W := tb_5 (i := 62) rfl rfl
theorem pw5_63 : (Jvm.Cond.methodLink "SkyMargins" (299 : Nat) ({ cls := "SkyMargins", name := "firstYearByTree", desc := "(LSkyMargins$Stemma;I)I" } : Jvm.MethodName)) ∈ pg_W := tb_5 (i := 63) rfl rfl
theorem pw5_65 : (Jvm.Cond.instanceMethod ({ cls := "SkyMargins", name := "firstYearByTree", desc := "(LSkyMargins$Stemma;I)I" } : Jvm.MethodName)) ∈ pg_W := tb_5 (i := 65) rfl rfl
theorem pw5_66 : (Jvm.Cond.code ({ cls := "SkyMargins", name := "firstYearByTree", desc := "(LSkyMargins$Stemma;I)I" } : Jvm.MethodName) prog_1_method_54_code (6 : Nat) (Option.some Jvm.ClassFile.FieldType.int)) ∈ pg_W := tb_5 (i := 66) rfl rfl
theorem pw5_67 : (Jvm.Cond.methodLink "SkyMargins" (380 : Nat) ({ cls := "java/lang/Math", name := "max", desc := "(II)I" } : Jvm.MethodName)) ∈ pg_W := tb_5 (i := 67) rfl rfl
theorem pw5_68 : (Jvm.Cond.methodLink "SkyMargins" (303 : Nat) ({ cls := "SkyMargins", name := "lastYearByTree", desc := "(LSkyMargins$Stemma;I)I" } : Jvm.MethodName)) ∈ pg_W := tb_5 (i := 68) rfl rfl
theorem pw5_70 : (Jvm.Cond.instanceMethod ({ cls := "SkyMargins", name := "lastYearByTree", desc := "(LSkyMargins$Stemma;I)I" } : Jvm.MethodName)) ∈ pg_W := tb_5 (i := 70) rfl rfl
theorem pw5_71 : (Jvm.Cond.code ({ cls := "SkyMargins", name := "lastYearByTree", desc := "(LSkyMargins$Stemma;I)I" } : Jvm.MethodName) prog_1_method_55_code (5 : Nat) (Option.some Jvm.ClassFile.FieldType.int)) ∈ pg_W := tb_5 (i := 71) rfl rfl
theorem pw5_72 : (Jvm.Cond.methodLink "SkyMargins" (385 : Nat) ({ cls := "java/lang/Math", name := "min", desc := "(II)I" } : Jvm.MethodName)) ∈ pg_W := tb_5 (i := 72) rfl rfl
theorem pw5_73 : (Jvm.Cond.methodLink "SkyMarginsLaw" (147 : Nat) ({ cls := "SkyMargins", name := "read", desc := "(II)I" } : Jvm.MethodName)) ∈ pg_W := tb_5 (i := 73) rfl rfl
theorem pw5_74 : (Jvm.Cond.instanceMethod ({ cls := "SkyMargins", name := "read", desc := "(II)I" } : Jvm.MethodName)) ∈ pg_W := tb_5 (i := 74) rfl rfl
theorem pw5_75 : (Jvm.Cond.selects "SkyMargins" ({ cls := "SkyMargins", name := "read", desc := "(II)I" } : Jvm.MethodName) ({ cls := "SkyMargins", name := "read", desc := "(II)I" } : Jvm.MethodName)) ∈ pg_W := tb_5 (i := 75) rfl rfl
theorem pw5_76 : (Jvm.Cond.code ({ cls := "SkyMargins", name := "read", desc := "(II)I" } : Jvm.MethodName) prog_1_method_34_code (3 : Nat) (Option.some Jvm.ClassFile.FieldType.int)) ∈ pg_W := tb_5 (i := 76) rfl rfl
theorem pw5_77 : (Jvm.Cond.methodLink "SkyMargins" (306 : Nat) ({ cls := "SkyMargins$Odds", name := "chanceRead", desc := "(LSkyMargins$Shelf;LSkyMargins$Asker;II)I" } : Jvm.MethodName)) ∈ pg_W := tb_5 (i := 77) rfl rfl
theorem pw5_78 : (Jvm.Cond.instanceMethod ({ cls := "SkyMargins$Odds", name := "chanceRead", desc := "(LSkyMargins$Shelf;LSkyMargins$Asker;II)I" } : Jvm.MethodName)) ∈ pg_W := tb_5 (i := 78) rfl rfl
theorem pw5_79 : (Jvm.Cond.selects "SkyMargins$Odds" ({ cls := "SkyMargins$Odds", name := "chanceRead", desc := "(LSkyMargins$Shelf;LSkyMargins$Asker;II)I" } : Jvm.MethodName) ({ cls := "SkyMargins$Odds", name := "chanceRead", desc := "(LSkyMargins$Shelf;LSkyMargins$Asker;II)I" } : Jvm.MethodName)) ∈ pg_W := tb_5 (i := 79) rfl rfl
theorem pw5_80 : (Jvm.Cond.code ({ cls := "SkyMargins$Odds", name := "chanceRead", desc := "(LSkyMargins$Shelf;LSkyMargins$Asker;II)I" } : Jvm.MethodName) prog_4_method_8_code (7 : Nat) (Option.some Jvm.ClassFile.FieldType.int)) ∈ pg_W := tb_5 (i := 80) rfl rfl
theorem pw5_81 : (Jvm.Cond.methodLink "SkyMargins$Odds" (85 : Nat) ({ cls := "SkyMargins$Asker", name := "askOfChapter", desc := "(LSkyMargins$Shelf;II)V" } : Jvm.MethodName)) ∈ pg_W := tb_5 (i := 81) rfl rfl
theorem pw5_82 : (Jvm.Cond.instanceMethod ({ cls := "SkyMargins$Asker", name := "askOfChapter", desc := "(LSkyMargins$Shelf;II)V" } : Jvm.MethodName)) ∈ pg_W := tb_5 (i := 82) rfl rfl
theorem pw5_83 : (Jvm.Cond.selects "SkyMargins$Asker" ({ cls := "SkyMargins$Asker", name := "askOfChapter", desc := "(LSkyMargins$Shelf;II)V" } : Jvm.MethodName) ({ cls := "SkyMargins$Asker", name := "askOfChapter", desc := "(LSkyMargins$Shelf;II)V" } : Jvm.MethodName)) ∈ pg_W := tb_5 (i := 83) rfl rfl
theorem pw5_84 : (Jvm.Cond.code ({ cls := "SkyMargins$Asker", name := "askOfChapter", desc := "(LSkyMargins$Shelf;II)V" } : Jvm.MethodName) prog_2_method_5_code (4 : Nat) (Option.none : Option Jvm.ClassFile.FieldType)) ∈ pg_W := tb_5 (i := 84) rfl rfl
theorem pw5_85 : (Jvm.Cond.methodLink "SkyMargins$Asker" (45 : Nat) ({ cls := "SkyMargins$Asker", name := "askOfCopy", desc := "(LSkyMargins$Shelf;I)V" } : Jvm.MethodName)) ∈ pg_W := tb_5 (i := 85) rfl rfl
theorem pw5_87 : (Jvm.Cond.instanceMethod ({ cls := "SkyMargins$Asker", name := "askOfCopy", desc := "(LSkyMargins$Shelf;I)V" } : Jvm.MethodName)) ∈ pg_W := tb_5 (i := 87) rfl rfl
theorem pw5_88 : (Jvm.Cond.code ({ cls := "SkyMargins$Asker", name := "askOfCopy", desc := "(LSkyMargins$Shelf;I)V" } : Jvm.MethodName) prog_2_method_6_code (3 : Nat) (Option.none : Option Jvm.ClassFile.FieldType)) ∈ pg_W := tb_5 (i := 88) rfl rfl
theorem pw5_89 : (Jvm.Cond.methodLink "SkyMargins$Asker" (35 : Nat) ({ cls := "SkyMargins$Table", name := "at", desc := "(II)I" } : Jvm.MethodName)) ∈ pg_W := tb_5 (i := 89) rfl rfl
theorem pw5_90 : (Jvm.Cond.methodLink "SkyMargins$Odds" (91 : Nat) ({ cls := "SkyMargins$Shelf", name := "textUsed", desc := "()LSkyMargins$Text;" } : Jvm.MethodName)) ∈ pg_W := tb_5 (i := 90) rfl rfl
theorem pw5_91 : (Jvm.Cond.methodLink "SkyMargins$Odds" (95 : Nat) ({ cls := "SkyMargins$Asker", name := "told", desc := "(LSkyMargins$Text;II)I" } : Jvm.MethodName)) ∈ pg_W := tb_5 (i := 91) rfl rfl
theorem pw5_92 : (Jvm.Cond.methodLink "SkyMargins$Odds" (99 : Nat) ({ cls := "SkyMargins$Shelf", name := "chaptersWritten", desc := "(I)I" } : Jvm.MethodName)) ∈ pg_W := tb_5 (i := 92) rfl rfl
theorem pw5_93 : (Jvm.Cond.instanceMethod ({ cls := "SkyMargins$Shelf", name := "chaptersWritten", desc := "(I)I" } : Jvm.MethodName)) ∈ pg_W := tb_5 (i := 93) rfl rfl
theorem pw5_94 : (Jvm.Cond.selects "SkyMargins$Shelf" ({ cls := "SkyMargins$Shelf", name := "chaptersWritten", desc := "(I)I" } : Jvm.MethodName) ({ cls := "SkyMargins$Shelf", name := "chaptersWritten", desc := "(I)I" } : Jvm.MethodName)) ∈ pg_W := tb_5 (i := 94) rfl rfl
theorem pw5_95 : (Jvm.Cond.code ({ cls := "SkyMargins$Shelf", name := "chaptersWritten", desc := "(I)I" } : Jvm.MethodName) prog_7_method_14_code (6 : Nat) (Option.some Jvm.ClassFile.FieldType.int)) ∈ pg_W := tb_5 (i := 95) rfl rfl
theorem pw5_96 : (Jvm.Cond.methodLink "SkyMargins$Shelf" (82 : Nat) ({ cls := "SkyMargins$Shelf", name := "placesOfKind", desc := "(II)J" } : Jvm.MethodName)) ∈ pg_W := tb_5 (i := 96) rfl rfl
theorem pw5_97 : (Jvm.Cond.instanceMethod ({ cls := "SkyMargins$Shelf", name := "placesOfKind", desc := "(II)J" } : Jvm.MethodName)) ∈ pg_W := tb_5 (i := 97) rfl rfl
theorem pw5_98 : (Jvm.Cond.selects "SkyMargins$Shelf" ({ cls := "SkyMargins$Shelf", name := "placesOfKind", desc := "(II)J" } : Jvm.MethodName) ({ cls := "SkyMargins$Shelf", name := "placesOfKind", desc := "(II)J" } : Jvm.MethodName)) ∈ pg_W := tb_5 (i := 98) rfl rfl
theorem pw5_99 : (Jvm.Cond.code ({ cls := "SkyMargins$Shelf", name := "placesOfKind", desc := "(II)J" } : Jvm.MethodName) prog_7_method_13_code (7 : Nat) (Option.some Jvm.ClassFile.FieldType.long)) ∈ pg_W := tb_5 (i := 99) rfl rfl
theorem pw5_100 : (Jvm.Cond.methodLinkNest "SkyMargins$Odds" (103 : Nat) ({ cls := "SkyMargins", name := "lastBit", desc := "(I)I" } : Jvm.MethodName) "SkyMargins") ∈ lw_tbl := tc_5 (i := 100) rfl
theorem pw5_101 : (Jvm.Cond.static ({ cls := "SkyMargins", name := "lastBit", desc := "(I)I" } : Jvm.MethodName)) ∈ pg_W := tb_5 (i := 101) rfl rfl
theorem pw5_102 : (Jvm.Cond.code ({ cls := "SkyMargins", name := "lastBit", desc := "(I)I" } : Jvm.MethodName) prog_1_method_61_code (1 : Nat) (Option.some Jvm.ClassFile.FieldType.int)) ∈ pg_W := tb_5 (i := 102) rfl rfl
theorem pw5_103 : (Jvm.Cond.methodLink "SkyMargins$Odds" (106 : Nat) ({ cls := "java/lang/Math", name := "max", desc := "(II)I" } : Jvm.MethodName)) ∈ pg_W := tb_5 (i := 103) rfl rfl
theorem pw5_104 : (Jvm.Cond.methodLink "SkyMargins$Odds" (111 : Nat) ({ cls := "SkyMargins$Odds", name := "weighRead", desc := "(II)V" } : Jvm.MethodName)) ∈ pg_W := tb_5 (i := 104) rfl rfl
theorem pw5_106 : (Jvm.Cond.instanceMethod ({ cls := "SkyMargins$Odds", name := "weighRead", desc := "(II)V" } : Jvm.MethodName)) ∈ pg_W := tb_5 (i := 106) rfl rfl
theorem pw5_107 : (Jvm.Cond.code ({ cls := "SkyMargins$Odds", name := "weighRead", desc := "(II)V" } : Jvm.MethodName) prog_4_method_9_code (7 : Nat) (Option.none : Option Jvm.ClassFile.FieldType)) ∈ pg_W := tb_5 (i := 107) rfl rfl
theorem pw5_108 : (Jvm.Cond.constantLong "SkyMargins$Odds" (123 : Nat) (100 : Int64)) ∈ pg_W := tb_5 (i := 108) rfl rfl
theorem pw5_109 : (Jvm.Cond.methodLink "SkyMargins$Odds" (114 : Nat) ({ cls := "SkyMargins$Big", name := "add", desc := "(LSkyMargins$Big;)V" } : Jvm.MethodName)) ∈ pg_W := tb_5 (i := 109) rfl rfl
theorem pw5_110 : (Jvm.Cond.instanceMethod ({ cls := "SkyMargins$Big", name := "add", desc := "(LSkyMargins$Big;)V" } : Jvm.MethodName)) ∈ pg_W := tb_5 (i := 110) rfl rfl
theorem pw5_111 : (Jvm.Cond.selects "SkyMargins$Big" ({ cls := "SkyMargins$Big", name := "add", desc := "(LSkyMargins$Big;)V" } : Jvm.MethodName) ({ cls := "SkyMargins$Big", name := "add", desc := "(LSkyMargins$Big;)V" } : Jvm.MethodName)) ∈ pg_W := tb_5 (i := 111) rfl rfl
theorem pw5_112 : (Jvm.Cond.code ({ cls := "SkyMargins$Big", name := "add", desc := "(LSkyMargins$Big;)V" } : Jvm.MethodName) prog_3_method_7_code (8 : Nat) (Option.none : Option Jvm.ClassFile.FieldType)) ∈ pg_W := tb_5 (i := 112) rfl rfl
theorem pw5_113 : (Jvm.Cond.methodLink "SkyMargins$Big" (37 : Nat) ({ cls := "java/lang/Math", name := "max", desc := "(II)I" } : Jvm.MethodName)) ∈ pg_W := tb_5 (i := 113) rfl rfl
theorem pw5_114 : (Jvm.Cond.methodLink "SkyMargins$Odds" (117 : Nat) ({ cls := "SkyMargins$Big", name := "isZero", desc := "()Z" } : Jvm.MethodName)) ∈ pg_W := tb_5 (i := 114) rfl rfl
theorem pw5_115 : (Jvm.Cond.instanceMethod ({ cls := "SkyMargins$Big", name := "isZero", desc := "()Z" } : Jvm.MethodName)) ∈ pg_W := tb_5 (i := 115) rfl rfl
theorem pw5_116 : (Jvm.Cond.selects "SkyMargins$Big" ({ cls := "SkyMargins$Big", name := "isZero", desc := "()Z" } : Jvm.MethodName) ({ cls := "SkyMargins$Big", name := "isZero", desc := "()Z" } : Jvm.MethodName)) ∈ pg_W := tb_5 (i := 116) rfl rfl
theorem pw5_117 : (Jvm.Cond.code ({ cls := "SkyMargins$Big", name := "isZero", desc := "()Z" } : Jvm.MethodName) prog_3_method_4_code (1 : Nat) (Option.some Jvm.ClassFile.FieldType.boolean)) ∈ pg_W := tb_5 (i := 117) rfl rfl
theorem pw5_118 : (Jvm.Cond.constantLong "SkyMargins$Odds" (121 : Nat) (1000000 : Int64)) ∈ pg_W := tb_5 (i := 118) rfl rfl
theorem pw5_119 : (Jvm.Cond.methodLink "SkyMarginsLaw" (151 : Nat) ({ cls := "SkyMargins", name := "stops", desc := "(II)I" } : Jvm.MethodName)) ∈ pg_W := tb_5 (i := 119) rfl rfl
theorem pw5_120 : (Jvm.Cond.instanceMethod ({ cls := "SkyMargins", name := "stops", desc := "(II)I" } : Jvm.MethodName)) ∈ pg_W := tb_5 (i := 120) rfl rfl
theorem pw5_121 : (Jvm.Cond.selects "SkyMargins" ({ cls := "SkyMargins", name := "stops", desc := "(II)I" } : Jvm.MethodName) ({ cls := "SkyMargins", name := "stops", desc := "(II)I" } : Jvm.MethodName)) ∈ pg_W := tb_5 (i := 121) rfl rfl
theorem pw5_122 : (Jvm.Cond.code ({ cls := "SkyMargins", name := "stops", desc := "(II)I" } : Jvm.MethodName) prog_1_method_35_code (4 : Nat) (Option.some Jvm.ClassFile.FieldType.int)) ∈ pg_W := tb_5 (i := 122) rfl rfl
theorem pw5_123 : (Jvm.Cond.methodLink "SkyMargins" (310 : Nat) ({ cls := "SkyMargins$Shelf", name := "chaptersWritten", desc := "(I)I" } : Jvm.MethodName)) ∈ pg_W := tb_5 (i := 123) rfl rfl
theorem pw5_124 : (Jvm.Cond.methodLink "SkyMargins" (313 : Nat) ({ cls := "SkyMargins", name := "lastBit", desc := "(I)I" } : Jvm.MethodName)) ∈ pg_W := tb_5 (i := 124) rfl rfl
theorem pw5_125 : (Jvm.Cond.methodLink "SkyMarginsLaw" (155 : Nat) ({ cls := "SkyMargins", name := "many", desc := "(II)I" } : Jvm.MethodName)) ∈ pg_W := tb_5 (i := 125) rfl rfl
theorem pw5_126 : (Jvm.Cond.instanceMethod ({ cls := "SkyMargins", name := "many", desc := "(II)I" } : Jvm.MethodName)) ∈ pg_W := tb_5 (i := 126) rfl rfl
theorem pw5_127 : (Jvm.Cond.selects "SkyMargins" ({ cls := "SkyMargins", name := "many", desc := "(II)I" } : Jvm.MethodName) ({ cls := "SkyMargins", name := "many", desc := "(II)I" } : Jvm.MethodName)) ∈ pg_W := tb_5 (i := 127) rfl rfl
theorem pw5_128 : (Jvm.Cond.code ({ cls := "SkyMargins", name := "many", desc := "(II)I" } : Jvm.MethodName) prog_1_method_36_code (10 : Nat) (Option.some Jvm.ClassFile.FieldType.int)) ∈ pg_W := tb_5 (i := 128) rfl rfl
theorem pw5_129 : (Jvm.Cond.methodLink "SkyMarginsLaw" (159 : Nat) ({ cls := "SkyMargins", name := "chao", desc := "()I" } : Jvm.MethodName)) ∈ pg_W := tb_5 (i := 129) rfl rfl
theorem pw5_130 : (Jvm.Cond.instanceMethod ({ cls := "SkyMargins", name := "chao", desc := "()I" } : Jvm.MethodName)) ∈ pg_W := tb_5 (i := 130) rfl rfl
theorem pw5_131 : (Jvm.Cond.selects "SkyMargins" ({ cls := "SkyMargins", name := "chao", desc := "()I" } : Jvm.MethodName) ({ cls := "SkyMargins", name := "chao", desc := "()I" } : Jvm.MethodName)) ∈ pg_W := tb_5 (i := 131) rfl rfl
theorem pw5_132 : (Jvm.Cond.code ({ cls := "SkyMargins", name := "chao", desc := "()I" } : Jvm.MethodName) prog_1_method_37_code (6 : Nat) (Option.some Jvm.ClassFile.FieldType.int)) ∈ pg_W := tb_5 (i := 132) rfl rfl
theorem pw5_133 : (Jvm.Cond.methodLink "SkyMarginsLaw" (163 : Nat) ({ cls := "SkyMargins", name := "censor", desc := "(III)I" } : Jvm.MethodName)) ∈ pg_W := tb_5 (i := 133) rfl rfl
theorem pw5_134 : (Jvm.Cond.instanceMethod ({ cls := "SkyMargins", name := "censor", desc := "(III)I" } : Jvm.MethodName)) ∈ pg_W := tb_5 (i := 134) rfl rfl
theorem pw5_135 : (Jvm.Cond.selects "SkyMargins" ({ cls := "SkyMargins", name := "censor", desc := "(III)I" } : Jvm.MethodName) ({ cls := "SkyMargins", name := "censor", desc := "(III)I" } : Jvm.MethodName)) ∈ pg_W := tb_5 (i := 135) rfl rfl
theorem pw5_136 : (Jvm.Cond.code ({ cls := "SkyMargins", name := "censor", desc := "(III)I" } : Jvm.MethodName) prog_1_method_38_code (10 : Nat) (Option.some Jvm.ClassFile.FieldType.int)) ∈ pg_W := tb_5 (i := 136) rfl rfl
theorem pw5_137 : (Jvm.Cond.methodLink "SkyMargins" (316 : Nat) ({ cls := "SkyMargins", name := "placesStruck", desc := "(LSkyMargins$Text;)J" } : Jvm.MethodName)) ∈ pg_W := tb_5 (i := 137) rfl rfl
theorem pw5_139 : (Jvm.Cond.instanceMethod ({ cls := "SkyMargins", name := "placesStruck", desc := "(LSkyMargins$Text;)J" } : Jvm.MethodName)) ∈ pg_W := tb_5 (i := 139) rfl rfl
theorem pw5_140 : (Jvm.Cond.code ({ cls := "SkyMargins", name := "placesStruck", desc := "(LSkyMargins$Text;)J" } : Jvm.MethodName) prog_1_method_56_code (5 : Nat) (Option.some Jvm.ClassFile.FieldType.long)) ∈ pg_W := tb_5 (i := 140) rfl rfl
theorem pw5_141 : (Jvm.Cond.methodLink "SkyMargins" (388 : Nat) ({ cls := "SkyMargins$Asker", name := "askOfPlace", desc := "(I)V" } : Jvm.MethodName)) ∈ pg_W := tb_5 (i := 141) rfl rfl
theorem pw5_142 : (Jvm.Cond.methodLink "SkyMargins" (328 : Nat) ({ cls := "SkyMargins$Asker", name := "holdsIn", desc := "(LSkyMargins$Text;I)Z" } : Jvm.MethodName)) ∈ pg_W := tb_5 (i := 142) rfl rfl
theorem pw5_143 : (Jvm.Cond.instanceMethod ({ cls := "SkyMargins$Asker", name := "holdsIn", desc := "(LSkyMargins$Text;I)Z" } : Jvm.MethodName)) ∈ pg_W := tb_5 (i := 143) rfl rfl
theorem pw5_144 : (Jvm.Cond.selects "SkyMargins$Asker" ({ cls := "SkyMargins$Asker", name := "holdsIn", desc := "(LSkyMargins$Text;I)Z" } : Jvm.MethodName) ({ cls := "SkyMargins$Asker", name := "holdsIn", desc := "(LSkyMargins$Text;I)Z" } : Jvm.MethodName)) ∈ pg_W := tb_5 (i := 144) rfl rfl
theorem pw5_145 : (Jvm.Cond.code ({ cls := "SkyMargins$Asker", name := "holdsIn", desc := "(LSkyMargins$Text;I)Z" } : Jvm.MethodName) prog_2_method_8_code (6 : Nat) (Option.some Jvm.ClassFile.FieldType.boolean)) ∈ pg_W := tb_5 (i := 145) rfl rfl
theorem pw5_146 : (Jvm.Cond.methodLink "SkyMargins" (320 : Nat) ({ cls := "SkyMargins", name := "toldOfCensor", desc := "(IJI)I" } : Jvm.MethodName)) ∈ pg_W := tb_5 (i := 146) rfl rfl
theorem pw5_148 : (Jvm.Cond.instanceMethod ({ cls := "SkyMargins", name := "toldOfCensor", desc := "(IJI)I" } : Jvm.MethodName)) ∈ pg_W := tb_5 (i := 148) rfl rfl
theorem pw5_149 : (Jvm.Cond.code ({ cls := "SkyMargins", name := "toldOfCensor", desc := "(IJI)I" } : Jvm.MethodName) prog_1_method_57_code (12 : Nat) (Option.some Jvm.ClassFile.FieldType.int)) ∈ pg_W := tb_5 (i := 149) rfl rfl
theorem pw5_150 : (Jvm.Cond.methodLink "SkyMargins" (391 : Nat) ({ cls := "SkyMargins$Shelf", name := "placesOfKind", desc := "(II)J" } : Jvm.MethodName)) ∈ pg_W := tb_5 (i := 150) rfl rfl
theorem pw5_151 : (Jvm.Cond.methodLink "SkyMargins" (395 : Nat) ({ cls := "java/lang/Long", name := "bitCount", desc := "(J)I" } : Jvm.MethodName)) ∈ pg_W := tb_5 (i := 151) rfl rfl
theorem pw5_152 : (Jvm.Cond.static ({ cls := "java/lang/Long", name := "bitCount", desc := "(J)I" } : Jvm.MethodName)) ∈ pg_W := tb_5 (i := 152) rfl rfl
theorem pw5_153 : (Jvm.Cond.code ({ cls := "java/lang/Long", name := "bitCount", desc := "(J)I" } : Jvm.MethodName) prog_17_method_50_code (2 : Nat) (Option.some Jvm.ClassFile.FieldType.int)) ∈ pg_W := tb_5 (i := 153) rfl rfl
theorem pw5_154 : (Jvm.Cond.constantLong "java/lang/Long" (314 : Nat) (6148914691236517205 : Int64)) ∈ pg_W := tb_5 (i := 154) rfl rfl
theorem pw5_155 : (Jvm.Cond.constantLong "java/lang/Long" (316 : Nat) (3689348814741910323 : Int64)) ∈ pg_W := tb_5 (i := 155) rfl rfl
theorem pw5_156 : (Jvm.Cond.constantLong "java/lang/Long" (318 : Nat) (1085102592571150095 : Int64)) ∈ pg_W := tb_5 (i := 156) rfl rfl
theorem pw5_157 : (Jvm.Cond.methodLink "SkyMarginsLaw" (167 : Nat) ({ cls := "SkyMargins", name := "late", desc := "(II)I" } : Jvm.MethodName)) ∈ pg_W := tb_5 (i := 157) rfl rfl
theorem pw5_158 : (Jvm.Cond.instanceMethod ({ cls := "SkyMargins", name := "late", desc := "(II)I" } : Jvm.MethodName)) ∈ pg_W := tb_5 (i := 158) rfl rfl
theorem pw5_159 : (Jvm.Cond.selects "SkyMargins" ({ cls := "SkyMargins", name := "late", desc := "(II)I" } : Jvm.MethodName) ({ cls := "SkyMargins", name := "late", desc := "(II)I" } : Jvm.MethodName)) ∈ pg_W := tb_5 (i := 159) rfl rfl
theorem pw5_160 : (Jvm.Cond.code ({ cls := "SkyMargins", name := "late", desc := "(II)I" } : Jvm.MethodName) prog_1_method_39_code (7 : Nat) (Option.some Jvm.ClassFile.FieldType.int)) ∈ pg_W := tb_5 (i := 160) rfl rfl
theorem pw5_161 : (Jvm.Cond.methodLink "SkyMargins" (324 : Nat) ({ cls := "SkyMargins$Asker", name := "askOfNote", desc := "(LSkyMargins$Shelf;II)V" } : Jvm.MethodName)) ∈ pg_W := tb_5 (i := 161) rfl rfl
theorem pw5_162 : (Jvm.Cond.instanceMethod ({ cls := "SkyMargins$Asker", name := "askOfNote", desc := "(LSkyMargins$Shelf;II)V" } : Jvm.MethodName)) ∈ pg_W := tb_5 (i := 162) rfl rfl
theorem pw5_163 : (Jvm.Cond.selects "SkyMargins$Asker" ({ cls := "SkyMargins$Asker", name := "askOfNote", desc := "(LSkyMargins$Shelf;II)V" } : Jvm.MethodName) ({ cls := "SkyMargins$Asker", name := "askOfNote", desc := "(LSkyMargins$Shelf;II)V" } : Jvm.MethodName)) ∈ pg_W := tb_5 (i := 163) rfl rfl
theorem pw5_164 : (Jvm.Cond.code ({ cls := "SkyMargins$Asker", name := "askOfNote", desc := "(LSkyMargins$Shelf;II)V" } : Jvm.MethodName) prog_2_method_4_code (4 : Nat) (Option.none : Option Jvm.ClassFile.FieldType)) ∈ pg_W := tb_5 (i := 164) rfl rfl
theorem pw5_165 : (Jvm.Cond.methodLink "SkyMargins$Asker" (41 : Nat) ({ cls := "SkyMargins$Asker", name := "askOfWording", desc := "(III)V" } : Jvm.MethodName)) ∈ pg_W := tb_5 (i := 165) rfl rfl
theorem pw5_166 : (Jvm.Cond.methodLink "SkyMarginsLaw" (171 : Nat) ({ cls := "SkyMargins", name := "next", desc := "(I)I" } : Jvm.MethodName)) ∈ pg_W := tb_5 (i := 166) rfl rfl
theorem pw5_167 : (Jvm.Cond.instanceMethod ({ cls := "SkyMargins", name := "next", desc := "(I)I" } : Jvm.MethodName)) ∈ pg_W := tb_5 (i := 167) rfl rfl
theorem pw5_168 : (Jvm.Cond.selects "SkyMargins" ({ cls := "SkyMargins", name := "next", desc := "(I)I" } : Jvm.MethodName) ({ cls := "SkyMargins", name := "next", desc := "(I)I" } : Jvm.MethodName)) ∈ pg_W := tb_5 (i := 168) rfl rfl
theorem pw5_169 : (Jvm.Cond.code ({ cls := "SkyMargins", name := "next", desc := "(I)I" } : Jvm.MethodName) prog_1_method_40_code (7 : Nat) (Option.some Jvm.ClassFile.FieldType.int)) ∈ pg_W := tb_5 (i := 169) rfl rfl
theorem pw5_170 : (Jvm.Cond.methodLink "SkyMargins" (332 : Nat) ({ cls := "SkyMargins$Shelf", name := "copiesLookedAt", desc := "()I" } : Jvm.MethodName)) ∈ pg_W := tb_5 (i := 170) rfl rfl
theorem pw5_171 : (Jvm.Cond.instanceMethod ({ cls := "SkyMargins$Shelf", name := "copiesLookedAt", desc := "()I" } : Jvm.MethodName)) ∈ pg_W := tb_5 (i := 171) rfl rfl
theorem pw5_172 : (Jvm.Cond.selects "SkyMargins$Shelf" ({ cls := "SkyMargins$Shelf", name := "copiesLookedAt", desc := "()I" } : Jvm.MethodName) ({ cls := "SkyMargins$Shelf", name := "copiesLookedAt", desc := "()I" } : Jvm.MethodName)) ∈ pg_W := tb_5 (i := 172) rfl rfl
theorem pw5_173 : (Jvm.Cond.code ({ cls := "SkyMargins$Shelf", name := "copiesLookedAt", desc := "()I" } : Jvm.MethodName) prog_7_method_7_code (3 : Nat) (Option.some Jvm.ClassFile.FieldType.int)) ∈ pg_W := tb_5 (i := 173) rfl rfl
theorem pw5_174 : (Jvm.Cond.methodLink "SkyMarginsLaw" (175 : Nat) ({ cls := "SkyMargins", name := "run", desc := "(I)I" } : Jvm.MethodName)) ∈ pg_W := tb_5 (i := 174) rfl rfl
theorem pw5_175 : (Jvm.Cond.instanceMethod ({ cls := "SkyMargins", name := "run", desc := "(I)I" } : Jvm.MethodName)) ∈ pg_W := tb_5 (i := 175) rfl rfl
theorem pw5_176 : (Jvm.Cond.selects "SkyMargins" ({ cls := "SkyMargins", name := "run", desc := "(I)I" } : Jvm.MethodName) ({ cls := "SkyMargins", name := "run", desc := "(I)I" } : Jvm.MethodName)) ∈ pg_W := tb_5 (i := 176) rfl rfl
theorem pw5_177 : (Jvm.Cond.code ({ cls := "SkyMargins", name := "run", desc := "(I)I" } : Jvm.MethodName) prog_1_method_41_code (2 : Nat) (Option.some Jvm.ClassFile.FieldType.int)) ∈ pg_W := tb_5 (i := 177) rfl rfl
theorem pw5_178 : (Jvm.Cond.constant "SkyMargins" (335 : Nat) (1000000 : Int32)) ∈ pg_W := tb_5 (i := 178) rfl rfl
theorem pw5_179 : (Jvm.Cond.methodLink "SkyMargins" (336 : Nat) ({ cls := "SkyMargins$World", name := "draw", desc := "(LSkyMargins$Shelf;LSkyMargins$Stemma;LSkyMargins$Asker;I)I" } : Jvm.MethodName)) ∈ pg_W := tb_5 (i := 179) rfl rfl
theorem pw5_180 : (Jvm.Cond.instanceMethod ({ cls := "SkyMargins$World", name := "draw", desc := "(LSkyMargins$Shelf;LSkyMargins$Stemma;LSkyMargins$Asker;I)I" } : Jvm.MethodName)) ∈ pg_W := tb_5 (i := 180) rfl rfl
theorem pw5_181 : (Jvm.Cond.selects "SkyMargins$World" ({ cls := "SkyMargins$World", name := "draw", desc := "(LSkyMargins$Shelf;LSkyMargins$Stemma;LSkyMargins$Asker;I)I" } : Jvm.MethodName) ({ cls := "SkyMargins$World", name := "draw", desc := "(LSkyMargins$Shelf;LSkyMargins$Stemma;LSkyMargins$Asker;I)I" } : Jvm.MethodName)) ∈ pg_W := tb_5 (i := 181) rfl rfl
theorem pw5_182 : (Jvm.Cond.code ({ cls := "SkyMargins$World", name := "draw", desc := "(LSkyMargins$Shelf;LSkyMargins$Stemma;LSkyMargins$Asker;I)I" } : Jvm.MethodName) prog_12_method_7_code (9 : Nat) (Option.some Jvm.ClassFile.FieldType.int)) ∈ pg_W := tb_5 (i := 182) rfl rfl
theorem pw5_183 : (Jvm.Cond.methodLink "SkyMargins$World" (42 : Nat) ({ cls := "SkyMargins$Table", name := "size", desc := "()I" } : Jvm.MethodName)) ∈ pg_W := tb_5 (i := 183) rfl rfl
theorem pw5_184 : (Jvm.Cond.methodLink "SkyMargins$World" (55 : Nat) ({ cls := "SkyMargins$World", name := "nextCopy", desc := "(LSkyMargins$Stemma;I)I" } : Jvm.MethodName)) ∈ pg_W := tb_5 (i := 184) rfl rfl
theorem pw5_186 : (Jvm.Cond.instanceMethod ({ cls := "SkyMargins$World", name := "nextCopy", desc := "(LSkyMargins$Stemma;I)I" } : Jvm.MethodName)) ∈ pg_W := tb_5 (i := 186) rfl rfl
theorem pw5_187 : (Jvm.Cond.code ({ cls := "SkyMargins$World", name := "nextCopy", desc := "(LSkyMargins$Stemma;I)I" } : Jvm.MethodName) prog_12_method_8_code (5 : Nat) (Option.some Jvm.ClassFile.FieldType.int)) ∈ pg_W := tb_5 (i := 187) rfl rfl
theorem pw5_188 : (Jvm.Cond.methodLink "SkyMargins$World" (59 : Nat) ({ cls := "SkyMargins$Stemma", name := "exemplarOf", desc := "(I)I" } : Jvm.MethodName)) ∈ pg_W := tb_5 (i := 188) rfl rfl
theorem pw5_189 : (Jvm.Cond.methodLink "SkyMargins$World" (64 : Nat) ({ cls := "SkyMargins$World", name := "takeNotes", desc := "(LSkyMargins$Shelf;LSkyMargins$Asker;II)V" } : Jvm.MethodName)) ∈ pg_W := tb_5 (i := 189) rfl rfl
theorem pw5_191 : (Jvm.Cond.instanceMethod ({ cls := "SkyMargins$World", name := "takeNotes", desc := "(LSkyMargins$Shelf;LSkyMargins$Asker;II)V" } : Jvm.MethodName)) ∈ pg_W := tb_5 (i := 191) rfl rfl
theorem pw5_192 : (Jvm.Cond.code ({ cls := "SkyMargins$World", name := "takeNotes", desc := "(LSkyMargins$Shelf;LSkyMargins$Asker;II)V" } : Jvm.MethodName) prog_12_method_9_code (7 : Nat) (Option.none : Option Jvm.ClassFile.FieldType)) ∈ pg_W := tb_5 (i := 192) rfl rfl
theorem pw5_193 : (Jvm.Cond.methodLink "SkyMargins$World" (72 : Nat) ({ cls := "SkyMargins$Asker", name := "askOfChapter", desc := "(LSkyMargins$Shelf;II)V" } : Jvm.MethodName)) ∈ pg_W := tb_5 (i := 193) rfl rfl
theorem pw5_194 : (Jvm.Cond.methodLink "SkyMargins$World" (78 : Nat) ({ cls := "SkyMargins$Shelf", name := "textUsed", desc := "()LSkyMargins$Text;" } : Jvm.MethodName)) ∈ pg_W := tb_5 (i := 194) rfl rfl
theorem pw5_195 : (Jvm.Cond.methodLink "SkyMargins$World" (82 : Nat) ({ cls := "SkyMargins$Asker", name := "told", desc := "(LSkyMargins$Text;II)I" } : Jvm.MethodName)) ∈ pg_W := tb_5 (i := 195) rfl rfl
theorem pw5_196 : (Jvm.Cond.methodLink "SkyMargins$World" (29 : Nat) ({ cls := "SkyMargins$World", name := "notesOf", desc := "(I)I" } : Jvm.MethodName)) ∈ pg_W := tb_5 (i := 196) rfl rfl
theorem pw5_197 : (Jvm.Cond.instanceMethod ({ cls := "SkyMargins$World", name := "notesOf", desc := "(I)I" } : Jvm.MethodName)) ∈ pg_W := tb_5 (i := 197) rfl rfl
theorem pw5_198 : (Jvm.Cond.selects "SkyMargins$World" ({ cls := "SkyMargins$World", name := "notesOf", desc := "(I)I" } : Jvm.MethodName) ({ cls := "SkyMargins$World", name := "notesOf", desc := "(I)I" } : Jvm.MethodName)) ∈ pg_W := tb_5 (i := 198) rfl rfl
theorem pw5_199 : (Jvm.Cond.code ({ cls := "SkyMargins$World", name := "notesOf", desc := "(I)I" } : Jvm.MethodName) prog_12_method_3_code (2 : Nat) (Option.some Jvm.ClassFile.FieldType.int)) ∈ pg_W := tb_5 (i := 199) rfl rfl
theorem pw5_200 : (Jvm.Cond.methodLink "SkyMargins$World" (25 : Nat) ({ cls := "SkyMargins$World", name := "hasCopy", desc := "(I)Z" } : Jvm.MethodName)) ∈ pg_W := tb_5 (i := 200) rfl rfl
theorem pw5_201 : (Jvm.Cond.instanceMethod ({ cls := "SkyMargins$World", name := "hasCopy", desc := "(I)Z" } : Jvm.MethodName)) ∈ pg_W := tb_5 (i := 201) rfl rfl
theorem pw5_202 : (Jvm.Cond.selects "SkyMargins$World" ({ cls := "SkyMargins$World", name := "hasCopy", desc := "(I)Z" } : Jvm.MethodName) ({ cls := "SkyMargins$World", name := "hasCopy", desc := "(I)Z" } : Jvm.MethodName)) ∈ pg_W := tb_5 (i := 202) rfl rfl
theorem pw5_203 : (Jvm.Cond.code ({ cls := "SkyMargins$World", name := "hasCopy", desc := "(I)Z" } : Jvm.MethodName) prog_12_method_2_code (2 : Nat) (Option.some Jvm.ClassFile.FieldType.boolean)) ∈ pg_W := tb_5 (i := 203) rfl rfl
theorem pw5_204 : (Jvm.Cond.methodLink "SkyMargins$World" (86 : Nat) ({ cls := "SkyMargins$World", name := "drawOfHundred", desc := "()I" } : Jvm.MethodName)) ∈ pg_W := tb_5 (i := 204) rfl rfl
theorem pw5_206 : (Jvm.Cond.instanceMethod ({ cls := "SkyMargins$World", name := "drawOfHundred", desc := "()I" } : Jvm.MethodName)) ∈ pg_W := tb_5 (i := 206) rfl rfl
theorem pw5_207 : (Jvm.Cond.code ({ cls := "SkyMargins$World", name := "drawOfHundred", desc := "()I" } : Jvm.MethodName) prog_12_method_12_code (1 : Nat) (Option.some Jvm.ClassFile.FieldType.int)) ∈ pg_W := tb_5 (i := 207) rfl rfl
theorem pw5_208 : (Jvm.Cond.constantLong "SkyMargins$World" (93 : Nat) (1103 : Int64)) ∈ pg_W := tb_5 (i := 208) rfl rfl
theorem pw5_209 : (Jvm.Cond.constantLong "SkyMargins$World" (95 : Nat) (12345 : Int64)) ∈ pg_W := tb_5 (i := 209) rfl rfl
theorem pw5_210 : (Jvm.Cond.constantLong "SkyMargins$World" (97 : Nat) (1000003 : Int64)) ∈ pg_W := tb_5 (i := 210) rfl rfl
theorem pw5_211 : (Jvm.Cond.constantLong "SkyMargins$World" (99 : Nat) (100 : Int64)) ∈ pg_W := tb_5 (i := 211) rfl rfl
theorem pw5_212 : (Jvm.Cond.methodLink "SkyMargins$World" (89 : Nat) ({ cls := "SkyMargins$World", name := "put", desc := "(II)V" } : Jvm.MethodName)) ∈ pg_W := tb_5 (i := 212) rfl rfl
theorem pw5_214 : (Jvm.Cond.instanceMethod ({ cls := "SkyMargins$World", name := "put", desc := "(II)V" } : Jvm.MethodName)) ∈ pg_W := tb_5 (i := 214) rfl rfl
theorem pw5_215 : (Jvm.Cond.code ({ cls := "SkyMargins$World", name := "put", desc := "(II)V" } : Jvm.MethodName) prog_12_method_11_code (3 : Nat) (Option.none : Option Jvm.ClassFile.FieldType)) ∈ pg_W := tb_5 (i := 215) rfl rfl
theorem pw5_216 : (Jvm.Cond.methodLink "SkyMargins$World" (68 : Nat) ({ cls := "SkyMargins$World", name := "writeNotes", desc := "(LSkyMargins$Shelf;LSkyMargins$Asker;I)V" } : Jvm.MethodName)) ∈ pg_W := tb_5 (i := 216) rfl rfl
theorem pw5_218 : (Jvm.Cond.instanceMethod ({ cls := "SkyMargins$World", name := "writeNotes", desc := "(LSkyMargins$Shelf;LSkyMargins$Asker;I)V" } : Jvm.MethodName)) ∈ pg_W := tb_5 (i := 218) rfl rfl
theorem pw5_219 : (Jvm.Cond.code ({ cls := "SkyMargins$World", name := "writeNotes", desc := "(LSkyMargins$Shelf;LSkyMargins$Asker;I)V" } : Jvm.MethodName) prog_12_method_10_code (5 : Nat) (Option.none : Option Jvm.ClassFile.FieldType)) ∈ pg_W := tb_5 (i := 219) rfl rfl
theorem pw5_220 : (Jvm.Cond.methodLink "SkyMarginsLaw" (179 : Nat) ({ cls := "SkyMargins", name := "world", desc := "(II)I" } : Jvm.MethodName)) ∈ pg_W := tb_5 (i := 220) rfl rfl
theorem pw5_221 : (Jvm.Cond.instanceMethod ({ cls := "SkyMargins", name := "world", desc := "(II)I" } : Jvm.MethodName)) ∈ pg_W := tb_5 (i := 221) rfl rfl
theorem pw5_222 : (Jvm.Cond.selects "SkyMargins" ({ cls := "SkyMargins", name := "world", desc := "(II)I" } : Jvm.MethodName) ({ cls := "SkyMargins", name := "world", desc := "(II)I" } : Jvm.MethodName)) ∈ pg_W := tb_5 (i := 222) rfl rfl
theorem pw5_223 : (Jvm.Cond.code ({ cls := "SkyMargins", name := "world", desc := "(II)I" } : Jvm.MethodName) prog_1_method_42_code (3 : Nat) (Option.some Jvm.ClassFile.FieldType.int)) ∈ pg_W := tb_5 (i := 223) rfl rfl
theorem pw5_224 : (Jvm.Cond.methodLink "SkyMargins" (340 : Nat) ({ cls := "SkyMargins$World", name := "hasCopy", desc := "(I)Z" } : Jvm.MethodName)) ∈ pg_W := tb_5 (i := 224) rfl rfl
theorem pw5_225 : (Jvm.Cond.methodLink "SkyMargins" (343 : Nat) ({ cls := "SkyMargins$World", name := "notesOf", desc := "(I)I" } : Jvm.MethodName)) ∈ pg_W := tb_5 (i := 225) rfl rfl
theorem pw5_226 : (Jvm.Cond.methodLink "SkyMargins" (346 : Nat) ({ cls := "SkyMargins$World", name := "notesCopied", desc := "(I)I" } : Jvm.MethodName)) ∈ pg_W := tb_5 (i := 226) rfl rfl
theorem pw5_227 : (Jvm.Cond.instanceMethod ({ cls := "SkyMargins$World", name := "notesCopied", desc := "(I)I" } : Jvm.MethodName)) ∈ pg_W := tb_5 (i := 227) rfl rfl
theorem pw5_228 : (Jvm.Cond.selects "SkyMargins$World" ({ cls := "SkyMargins$World", name := "notesCopied", desc := "(I)I" } : Jvm.MethodName) ({ cls := "SkyMargins$World", name := "notesCopied", desc := "(I)I" } : Jvm.MethodName)) ∈ pg_W := tb_5 (i := 228) rfl rfl
theorem pw5_229 : (Jvm.Cond.code ({ cls := "SkyMargins$World", name := "notesCopied", desc := "(I)I" } : Jvm.MethodName) prog_12_method_4_code (2 : Nat) (Option.some Jvm.ClassFile.FieldType.int)) ∈ pg_W := tb_5 (i := 229) rfl rfl
theorem pw5_230 : (Jvm.Cond.methodLink "SkyMargins" (349 : Nat) ({ cls := "SkyMargins$World", name := "holdersOfFirst", desc := "(I)I" } : Jvm.MethodName)) ∈ pg_W := tb_5 (i := 230) rfl rfl
theorem pw5_231 : (Jvm.Cond.instanceMethod ({ cls := "SkyMargins$World", name := "holdersOfFirst", desc := "(I)I" } : Jvm.MethodName)) ∈ pg_W := tb_5 (i := 231) rfl rfl
theorem pw5_232 : (Jvm.Cond.selects "SkyMargins$World" ({ cls := "SkyMargins$World", name := "holdersOfFirst", desc := "(I)I" } : Jvm.MethodName) ({ cls := "SkyMargins$World", name := "holdersOfFirst", desc := "(I)I" } : Jvm.MethodName)) ∈ pg_W := tb_5 (i := 232) rfl rfl
theorem pw5_233 : (Jvm.Cond.code ({ cls := "SkyMargins$World", name := "holdersOfFirst", desc := "(I)I" } : Jvm.MethodName) prog_12_method_5_code (5 : Nat) (Option.some Jvm.ClassFile.FieldType.int)) ∈ pg_W := tb_5 (i := 233) rfl rfl
theorem pw5_234 : (Jvm.Cond.methodLink "SkyMargins$World" (33 : Nat) ({ cls := "SkyMargins$World", name := "hasNote", desc := "(II)Z" } : Jvm.MethodName)) ∈ pg_W := tb_5 (i := 234) rfl rfl
theorem pw5_236 : (Jvm.Cond.instanceMethod ({ cls := "SkyMargins$World", name := "hasNote", desc := "(II)Z" } : Jvm.MethodName)) ∈ pg_W := tb_5 (i := 236) rfl rfl
theorem pw5_237 : (Jvm.Cond.code ({ cls := "SkyMargins$World", name := "hasNote", desc := "(II)Z" } : Jvm.MethodName) prog_12_method_6_code (4 : Nat) (Option.some Jvm.ClassFile.FieldType.boolean)) ∈ pg_W := tb_5 (i := 237) rfl rfl
theorem pw5_238 : (Jvm.Cond.methodLink "SkyMarginsLaw" (183 : Nat) ({ cls := "SkyMargins", name := "image", desc := "(I)I" } : Jvm.MethodName)) ∈ pg_W := tb_5 (i := 238) rfl rfl
theorem pw5_239 : (Jvm.Cond.instanceMethod ({ cls := "SkyMargins", name := "image", desc := "(I)I" } : Jvm.MethodName)) ∈ pg_W := tb_5 (i := 239) rfl rfl
theorem pw6_0 : (Jvm.Cond.selects "SkyMargins" ({ cls := "SkyMargins", name := "image", desc := "(I)I" } : Jvm.MethodName) ({ cls := "SkyMargins", name := "image", desc := "(I)I" } : Jvm.MethodName)) ∈ pg_W := tb_6 (i := 0) rfl rfl
theorem pw6_1 : (Jvm.Cond.code ({ cls := "SkyMargins", name := "image", desc := "(I)I" } : Jvm.MethodName) prog_1_method_43_code (2 : Nat) (Option.some Jvm.ClassFile.FieldType.int)) ∈ pg_W := tb_6 (i := 1) rfl rfl
theorem pw6_2 : (Jvm.Cond.methodLink "SkyMargins" (352 : Nat) ({ cls := "SkyMargins$Shelf", name := "takeFrom", desc := "(LSkyMargins$Shelf;)V" } : Jvm.MethodName)) ∈ pg_W := tb_6 (i := 2) rfl rfl
theorem pw6_3 : (Jvm.Cond.instanceMethod ({ cls := "SkyMargins$Shelf", name := "takeFrom", desc := "(LSkyMargins$Shelf;)V" } : Jvm.MethodName)) ∈ pg_W := tb_6 (i := 3) rfl rfl
theorem pw6_4 : (Jvm.Cond.selects "SkyMargins$Shelf" ({ cls := "SkyMargins$Shelf", name := "takeFrom", desc := "(LSkyMargins$Shelf;)V" } : Jvm.MethodName) ({ cls := "SkyMargins$Shelf", name := "takeFrom", desc := "(LSkyMargins$Shelf;)V" } : Jvm.MethodName)) ∈ pg_W := tb_6 (i := 4) rfl rfl
theorem pw6_5 : (Jvm.Cond.code ({ cls := "SkyMargins$Shelf", name := "takeFrom", desc := "(LSkyMargins$Shelf;)V" } : Jvm.MethodName) prog_7_method_2_code (3 : Nat) (Option.none : Option Jvm.ClassFile.FieldType)) ∈ pg_W := tb_6 (i := 5) rfl rfl
theorem pw6_6 : (Jvm.Cond.methodLink "SkyMargins$Shelf" (50 : Nat) ({ cls := "SkyMargins$Table", name := "takeFrom", desc := "(LSkyMargins$Table;)V" } : Jvm.MethodName)) ∈ pg_W := tb_6 (i := 6) rfl rfl
theorem pw6_7 : (Jvm.Cond.instanceMethod ({ cls := "SkyMargins$Table", name := "takeFrom", desc := "(LSkyMargins$Table;)V" } : Jvm.MethodName)) ∈ pg_W := tb_6 (i := 7) rfl rfl
theorem pw6_8 : (Jvm.Cond.selects "SkyMargins$Table" ({ cls := "SkyMargins$Table", name := "takeFrom", desc := "(LSkyMargins$Table;)V" } : Jvm.MethodName) ({ cls := "SkyMargins$Table", name := "takeFrom", desc := "(LSkyMargins$Table;)V" } : Jvm.MethodName)) ∈ pg_W := tb_6 (i := 8) rfl rfl
theorem pw6_9 : (Jvm.Cond.code ({ cls := "SkyMargins$Table", name := "takeFrom", desc := "(LSkyMargins$Table;)V" } : Jvm.MethodName) prog_9_method_7_code (2 : Nat) (Option.none : Option Jvm.ClassFile.FieldType)) ∈ pg_W := tb_6 (i := 9) rfl rfl
theorem pw6_10 : (Jvm.Cond.methodLink "SkyMargins$Table" (39 : Nat) ({ cls := "java/lang/Math", name := "min", desc := "(II)I" } : Jvm.MethodName)) ∈ pg_W := tb_6 (i := 10) rfl rfl
theorem pw6_11 : (Jvm.Cond.methodLink "SkyMargins$Table" (42 : Nat) ({ cls := "java/lang/System", name := "arraycopy", desc := "(Ljava/lang/Object;ILjava/lang/Object;II)V" } : Jvm.MethodName)) ∈ pg_W := tb_6 (i := 11) rfl rfl
theorem pw6_12 : (Jvm.Cond.methodLink "SkyMargins$Shelf" (54 : Nat) ({ cls := "java/lang/System", name := "arraycopy", desc := "(Ljava/lang/Object;ILjava/lang/Object;II)V" } : Jvm.MethodName)) ∈ pg_W := tb_6 (i := 12) rfl rfl
theorem pw6_13 : (Jvm.Cond.methodLink "SkyMarginsLaw" (187 : Nat) ({ cls := "SkyMargins", name := "back", desc := "(I)I" } : Jvm.MethodName)) ∈ pg_W := tb_6 (i := 13) rfl rfl
theorem pw6_14 : (Jvm.Cond.instanceMethod ({ cls := "SkyMargins", name := "back", desc := "(I)I" } : Jvm.MethodName)) ∈ pg_W := tb_6 (i := 14) rfl rfl
theorem pw6_15 : (Jvm.Cond.selects "SkyMargins" ({ cls := "SkyMargins", name := "back", desc := "(I)I" } : Jvm.MethodName) ({ cls := "SkyMargins", name := "back", desc := "(I)I" } : Jvm.MethodName)) ∈ pg_W := tb_6 (i := 15) rfl rfl
theorem pw6_16 : (Jvm.Cond.code ({ cls := "SkyMargins", name := "back", desc := "(I)I" } : Jvm.MethodName) prog_1_method_44_code (2 : Nat) (Option.some Jvm.ClassFile.FieldType.int)) ∈ pg_W := tb_6 (i := 16) rfl rfl
theorem pw6_17 : (Jvm.Cond.methodLink "SkyMarginsLaw" (191 : Nat) ({ cls := "SkyMargins", name := "count", desc := "(I)I" } : Jvm.MethodName)) ∈ pg_W := tb_6 (i := 17) rfl rfl
theorem pw6_18 : (Jvm.Cond.instanceMethod ({ cls := "SkyMargins", name := "count", desc := "(I)I" } : Jvm.MethodName)) ∈ pg_W := tb_6 (i := 18) rfl rfl
theorem pw6_19 : (Jvm.Cond.selects "SkyMargins" ({ cls := "SkyMargins", name := "count", desc := "(I)I" } : Jvm.MethodName) ({ cls := "SkyMargins", name := "count", desc := "(I)I" } : Jvm.MethodName)) ∈ pg_W := tb_6 (i := 19) rfl rfl
theorem pw6_20 : (Jvm.Cond.code ({ cls := "SkyMargins", name := "count", desc := "(I)I" } : Jvm.MethodName) prog_1_method_45_code (2 : Nat) (Option.some Jvm.ClassFile.FieldType.int)) ∈ pg_W := tb_6 (i := 20) rfl rfl
theorem pw6_21 : (Jvm.Cond.methodLink "SkyMargins" (356 : Nat) ({ cls := "SkyMargins$Shelf", name := "notesWritten", desc := "()I" } : Jvm.MethodName)) ∈ pg_W := tb_6 (i := 21) rfl rfl
theorem pw6_22 : (Jvm.Cond.instanceMethod ({ cls := "SkyMargins$Shelf", name := "notesWritten", desc := "()I" } : Jvm.MethodName)) ∈ pg_W := tb_6 (i := 22) rfl rfl
theorem pw6_23 : (Jvm.Cond.selects "SkyMargins$Shelf" ({ cls := "SkyMargins$Shelf", name := "notesWritten", desc := "()I" } : Jvm.MethodName) ({ cls := "SkyMargins$Shelf", name := "notesWritten", desc := "()I" } : Jvm.MethodName)) ∈ pg_W := tb_6 (i := 23) rfl rfl
theorem pw6_24 : (Jvm.Cond.code ({ cls := "SkyMargins$Shelf", name := "notesWritten", desc := "()I" } : Jvm.MethodName) prog_7_method_11_code (3 : Nat) (Option.some Jvm.ClassFile.FieldType.int)) ∈ pg_W := tb_6 (i := 24) rfl rfl
theorem pw6_25 : (Jvm.Cond.methodLink "SkyMarginsLaw" (195 : Nat) ({ cls := "SkyMargins", name := "status", desc := "()I" } : Jvm.MethodName)) ∈ pg_W := tb_6 (i := 25) rfl rfl
theorem pw6_26 : (Jvm.Cond.instanceMethod ({ cls := "SkyMargins", name := "status", desc := "()I" } : Jvm.MethodName)) ∈ pg_W := tb_6 (i := 26) rfl rfl
theorem pw6_27 : (Jvm.Cond.selects "SkyMargins" ({ cls := "SkyMargins", name := "status", desc := "()I" } : Jvm.MethodName) ({ cls := "SkyMargins", name := "status", desc := "()I" } : Jvm.MethodName)) ∈ pg_W := tb_6 (i := 27) rfl rfl
theorem pw6_28 : (Jvm.Cond.code ({ cls := "SkyMargins", name := "status", desc := "()I" } : Jvm.MethodName) prog_1_method_46_code (1 : Nat) (Option.some Jvm.ClassFile.FieldType.int)) ∈ pg_W := tb_6 (i := 28) rfl rfl
theorem pw6_29 : (Jvm.Cond.classLink "SkyMarginsLaw" (10 : Nat) "SkyMarginsModel") ∈ pg_W := tb_6 (i := 29) rfl rfl
theorem pw6_30 : (Jvm.Cond.instantiable "SkyMarginsModel" (46 : Nat)) ∈ pg_W := tb_6 (i := 30) rfl rfl
theorem pw6_31 : (Jvm.Cond.methodLink "SkyMarginsLaw" (12 : Nat) ({ cls := "SkyMarginsModel", name := "<init>", desc := "()V" } : Jvm.MethodName)) ∈ pg_W := tb_6 (i := 31) rfl rfl
theorem pw6_32 : (Jvm.Cond.instanceMethod ({ cls := "SkyMarginsModel", name := "<init>", desc := "()V" } : Jvm.MethodName)) ∈ pg_W := tb_6 (i := 32) rfl rfl
theorem pw6_33 : (Jvm.Cond.code ({ cls := "SkyMarginsModel", name := "<init>", desc := "()V" } : Jvm.MethodName) prog_14_method_4_code (1 : Nat) (Option.none : Option Jvm.ClassFile.FieldType)) ∈ pg_W := tb_6 (i := 33) rfl rfl
theorem pw6_34 : (Jvm.Cond.methodLink "SkyMarginsModel" (14 : Nat) ({ cls := "java/lang/Object", name := "<init>", desc := "()V" } : Jvm.MethodName)) ∈ pg_W := tb_6 (i := 34) rfl rfl
theorem pw6_35 : (Jvm.Cond.fieldLink "SkyMarginsModel" (3 : Nat) "SkyMarginsModel" "status" "I") ∈ pg_W := tb_6 (i := 35) rfl rfl
theorem pw6_36 : (Jvm.Cond.fieldLink "SkyMarginsModel" (11 : Nat) "SkyMarginsModel" "version" "I") ∈ pg_W := tb_6 (i := 36) rfl rfl
theorem pw6_37 : (Jvm.Cond.fieldLink "SkyMarginsModel" (7 : Nat) "SkyMarginsModel" "refused" "[I") ∈ pg_W := tb_6 (i := 37) rfl rfl
theorem pw6_38 : (Jvm.Cond.fieldLink "SkyMarginsModel" (20 : Nat) "SkyMarginsModel" "kept" "[I") ∈ pg_W := tb_6 (i := 38) rfl rfl
theorem pw6_39 : (Jvm.Cond.fieldLink "SkyMarginsModel" (23 : Nat) "SkyMarginsModel" "images" "[I") ∈ pg_W := tb_6 (i := 39) rfl rfl
theorem pw6_40 : (Jvm.Cond.fieldLink "SkyMarginsModel" (26 : Nat) "SkyMarginsModel" "hasImage" "[Z") ∈ pg_W := tb_6 (i := 40) rfl rfl
theorem pw6_41 : (Jvm.Cond.fieldLink "SkyMarginsModel" (166 : Nat) "SkyMarginsModel" "trimmed" "I") ∈ pg_W := tb_6 (i := 41) rfl rfl
theorem pw6_42 : (Jvm.Cond.fieldLink "SkyMarginsModel" (30 : Nat) "SkyMarginsModel" "words" "[B") ∈ pg_W := tb_6 (i := 42) rfl rfl
theorem pw6_43 : (Jvm.Cond.fieldLink "SkyMarginsModel" (34 : Nat) "SkyMarginsModel" "tape" "[B") ∈ pg_W := tb_6 (i := 43) rfl rfl
theorem pw6_44 : (Jvm.Cond.fieldLink "SkyMarginsModel" (37 : Nat) "SkyMarginsModel" "five" "[I") ∈ pg_W := tb_6 (i := 44) rfl rfl
theorem pw6_45 : (Jvm.Cond.fieldLink "SkyMarginsModel" (163 : Nat) "SkyMarginsModel" "taped" "I") ∈ pg_W := tb_6 (i := 45) rfl rfl
theorem pw6_46 : (Jvm.Cond.fieldLink "SkyMarginsModel" (40 : Nat) "SkyMarginsModel" "fault" "I") ∈ pg_W := tb_6 (i := 46) rfl rfl
theorem pw6_47 : (Jvm.Cond.fieldLink "SkyMarginsModel" (43 : Nat) "SkyMarginsModel" "code" "[I") ∈ pg_W := tb_6 (i := 47) rfl rfl
theorem pw6_48 : (Jvm.Cond.fieldLink "SkyMarginsModel" (46 : Nat) "SkyMarginsModel" "value" "[I") ∈ pg_W := tb_6 (i := 48) rfl rfl
theorem pw6_49 : (Jvm.Cond.fieldLink "SkyMarginsModel" (49 : Nat) "SkyMarginsModel" "placed" "[I") ∈ pg_W := tb_6 (i := 49) rfl rfl
theorem pw6_50 : (Jvm.Cond.fieldLink "SkyMarginsModel" (169 : Nat) "SkyMarginsModel" "tokens" "I") ∈ pg_W := tb_6 (i := 50) rfl rfl
theorem pw6_51 : (Jvm.Cond.fieldLink "SkyMarginsModel" (189 : Nat) "SkyMarginsModel" "token" "I") ∈ pg_W := tb_6 (i := 51) rfl rfl
theorem pw6_52 : (Jvm.Cond.fieldLink "SkyMarginsModel" (198 : Nat) "SkyMarginsModel" "leaves" "I") ∈ pg_W := tb_6 (i := 52) rfl rfl
theorem pw6_53 : (Jvm.Cond.fieldLink "SkyMarginsModel" (182 : Nat) "SkyMarginsModel" "bad" "I") ∈ pg_W := tb_6 (i := 53) rfl rfl
theorem pw6_54 : (Jvm.Cond.fieldLink "SkyMarginsModel" (245 : Nat) "SkyMarginsModel" "go" "I") ∈ pg_W := tb_6 (i := 54) rfl rfl
theorem pw6_55 : (Jvm.Cond.fieldLink "SkyMarginsModel" (242 : Nat) "SkyMarginsModel" "goEnd" "I") ∈ pg_W := tb_6 (i := 55) rfl rfl
theorem pw6_56 : (Jvm.Cond.fieldLink "SkyMarginsModel" (255 : Nat) "SkyMarginsModel" "broken" "Z") ∈ pg_W := tb_6 (i := 56) rfl rfl
theorem pw6_57 : (Jvm.Cond.fieldLink "SkyMarginsModel" (52 : Nat) "SkyMarginsModel" "asked" "[I") ∈ pg_W := tb_6 (i := 57) rfl rfl
theorem pw6_58 : (Jvm.Cond.fieldLink "SkyMarginsModel" (289 : Nat) "SkyMarginsModel" "told" "J") ∈ pg_W := tb_6 (i := 58) rfl rfl
theorem pw6_59 : (Jvm.Cond.fieldLink "SkyMarginsModel" (293 : Nat) "SkyMarginsModel" "isTold" "Z") ∈ pg_W := tb_6 (i := 59) rfl rfl
theorem pw6_60 : (Jvm.Cond.fieldLink "SkyMarginsModel" (55 : Nat) "SkyMarginsModel" "weights" "[I") ∈ pg_W := tb_6 (i := 60) rfl rfl
theorem pw6_61 : (Jvm.Cond.fieldLink "SkyMarginsModel" (58 : Nat) "SkyMarginsModel" "costs" "[I") ∈ pg_W := tb_6 (i := 61) rfl rfl
theorem pw6_62 : (Jvm.Cond.fieldLink "SkyMarginsModel" (61 : Nat) "SkyMarginsModel" "lets" "[I") ∈ pg_W := tb_6 (i := 62) rfl rfl
theorem pw6_63 : (Jvm.Cond.fieldLink "SkyMarginsModel" (64 : Nat) "SkyMarginsModel" "least" "[I") ∈ pg_W := tb_6 (i := 63) rfl rfl
theorem pw6_64 : (Jvm.Cond.fieldLink "SkyMarginsModel" (67 : Nat) "SkyMarginsModel" "exemplars" "[I") ∈ pg_W := tb_6 (i := 64) rfl rfl
theorem pw6_65 : (Jvm.Cond.fieldLink "SkyMarginsModel" (343 : Nat) "SkyMarginsModel" "treeCost" "I") ∈ pg_W := tb_6 (i := 65) rfl rfl
theorem pw6_66 : (Jvm.Cond.fieldLink "SkyMarginsModel" (70 : Nat) "SkyMarginsModel" "grownBy" "I") ∈ pg_W := tb_6 (i := 66) rfl rfl
theorem pw6_67 : (Jvm.Cond.fieldLink "SkyMarginsModel" (73 : Nat) "SkyMarginsModel" "near" "[Z") ∈ pg_W := tb_6 (i := 67) rfl rfl
theorem pw6_68 : (Jvm.Cond.fieldLink "SkyMarginsModel" (76 : Nat) "SkyMarginsModel" "families" "[I") ∈ pg_W := tb_6 (i := 68) rfl rfl
theorem pw6_69 : (Jvm.Cond.fieldLink "SkyMarginsModel" (79 : Nat) "SkyMarginsModel" "one" "[J") ∈ pg_W := tb_6 (i := 69) rfl rfl
theorem pw6_70 : (Jvm.Cond.fieldLink "SkyMarginsModel" (83 : Nat) "SkyMarginsModel" "two" "[J") ∈ pg_W := tb_6 (i := 70) rfl rfl
theorem pw6_71 : (Jvm.Cond.fieldLink "SkyMarginsModel" (86 : Nat) "SkyMarginsModel" "spare" "[J") ∈ pg_W := tb_6 (i := 71) rfl rfl
theorem pw6_72 : (Jvm.Cond.fieldLink "SkyMarginsModel" (89 : Nat) "SkyMarginsModel" "goesOn" "[I") ∈ pg_W := tb_6 (i := 72) rfl rfl
theorem pw6_73 : (Jvm.Cond.fieldLink "SkyMarginsModel" (92 : Nat) "SkyMarginsModel" "writes" "[I") ∈ pg_W := tb_6 (i := 73) rfl rfl
theorem pw6_74 : (Jvm.Cond.fieldLink "SkyMarginsModel" (95 : Nat) "SkyMarginsModel" "chance" "[J") ∈ pg_W := tb_6 (i := 74) rfl rfl
theorem pw6_75 : (Jvm.Cond.fieldLink "SkyMarginsModel" (98 : Nat) "SkyMarginsModel" "struck" "[Z") ∈ pg_W := tb_6 (i := 75) rfl rfl
theorem pw6_76 : (Jvm.Cond.fieldLink "SkyMarginsModel" (101 : Nat) "SkyMarginsModel" "worldNotes" "[I") ∈ pg_W := tb_6 (i := 76) rfl rfl
theorem pw6_77 : (Jvm.Cond.fieldLink "SkyMarginsModel" (104 : Nat) "SkyMarginsModel" "worldMany" "[I") ∈ pg_W := tb_6 (i := 77) rfl rfl
theorem pw6_78 : (Jvm.Cond.fieldLink "SkyMarginsModel" (107 : Nat) "SkyMarginsModel" "worldFrom" "[I") ∈ pg_W := tb_6 (i := 78) rfl rfl
theorem pw6_79 : (Jvm.Cond.fieldLink "SkyMarginsModel" (110 : Nat) "SkyMarginsModel" "worldCopies" "I") ∈ pg_W := tb_6 (i := 79) rfl rfl
theorem pw6_80 : (Jvm.Cond.fieldLink "SkyMarginsModel" (425 : Nat) "SkyMarginsModel" "drawn" "I") ∈ pg_W := tb_6 (i := 80) rfl rfl
theorem pw6_174 : (Jvm.Cond.methodLink "SkyMarginsLaw" (186 : Nat) ({ cls := "SkyMarginsModel", name := "image", desc := "(I)I" } : Jvm.MethodName)) ∈ pg_W := tb_6 (i := 174) rfl rfl
theorem pw6_175 : (Jvm.Cond.instanceMethod ({ cls := "SkyMarginsModel", name := "image", desc := "(I)I" } : Jvm.MethodName)) ∈ pg_W := tb_6 (i := 175) rfl rfl
theorem pw6_176 : (Jvm.Cond.selects "SkyMarginsModel" ({ cls := "SkyMarginsModel", name := "image", desc := "(I)I" } : Jvm.MethodName) ({ cls := "SkyMarginsModel", name := "image", desc := "(I)I" } : Jvm.MethodName)) ∈ pg_W := tb_6 (i := 176) rfl rfl
theorem pw6_177 : (Jvm.Cond.code ({ cls := "SkyMarginsModel", name := "image", desc := "(I)I" } : Jvm.MethodName) prog_14_method_5_code (3 : Nat) (Option.some Jvm.ClassFile.FieldType.int)) ∈ pg_W := tb_6 (i := 177) rfl rfl
theorem pw6_178 : (Jvm.Cond.methodLink "SkyMarginsModel" (113 : Nat) ({ cls := "SkyMarginsModel", name := "lies", desc := "(III)Z" } : Jvm.MethodName)) ∈ pg_W := tb_6 (i := 178) rfl rfl
theorem pw6_179 : (Jvm.Cond.static ({ cls := "SkyMarginsModel", name := "lies", desc := "(III)Z" } : Jvm.MethodName)) ∈ pg_W := tb_6 (i := 179) rfl rfl
theorem pw6_180 : (Jvm.Cond.code ({ cls := "SkyMarginsModel", name := "lies", desc := "(III)Z" } : Jvm.MethodName) prog_14_method_1_code (3 : Nat) (Option.some Jvm.ClassFile.FieldType.boolean)) ∈ pg_W := tb_6 (i := 180) rfl rfl
theorem pw6_181 : (Jvm.Cond.methodLink "SkyMarginsModel" (117 : Nat) ({ cls := "SkyMarginsModel", name := "refuses", desc := "(I)I" } : Jvm.MethodName)) ∈ pg_W := tb_6 (i := 181) rfl rfl
theorem pw6_183 : (Jvm.Cond.instanceMethod ({ cls := "SkyMarginsModel", name := "refuses", desc := "(I)I" } : Jvm.MethodName)) ∈ pg_W := tb_6 (i := 183) rfl rfl
theorem pw6_184 : (Jvm.Cond.code ({ cls := "SkyMarginsModel", name := "refuses", desc := "(I)I" } : Jvm.MethodName) prog_14_method_2_code (2 : Nat) (Option.some Jvm.ClassFile.FieldType.int)) ∈ pg_W := tb_6 (i := 184) rfl rfl
theorem pw6_185 : (Jvm.Cond.methodLink "SkyMarginsModel" (121 : Nat) ({ cls := "SkyMarginsModel", name := "good", desc := "(I)I" } : Jvm.MethodName)) ∈ pg_W := tb_6 (i := 185) rfl rfl
theorem pw6_187 : (Jvm.Cond.instanceMethod ({ cls := "SkyMarginsModel", name := "good", desc := "(I)I" } : Jvm.MethodName)) ∈ pg_W := tb_6 (i := 187) rfl rfl
theorem pw6_188 : (Jvm.Cond.code ({ cls := "SkyMarginsModel", name := "good", desc := "(I)I" } : Jvm.MethodName) prog_14_method_3_code (2 : Nat) (Option.some Jvm.ClassFile.FieldType.int)) ∈ pg_W := tb_6 (i := 188) rfl rfl
theorem pw6_189 : (Jvm.Cond.methodLink "SkyMarginsLaw" (190 : Nat) ({ cls := "SkyMarginsModel", name := "back", desc := "(I)I" } : Jvm.MethodName)) ∈ pg_W := tb_6 (i := 189) rfl rfl
theorem pw6_190 : (Jvm.Cond.instanceMethod ({ cls := "SkyMarginsModel", name := "back", desc := "(I)I" } : Jvm.MethodName)) ∈ pg_W := tb_6 (i := 190) rfl rfl
theorem pw6_191 : (Jvm.Cond.selects "SkyMarginsModel" ({ cls := "SkyMarginsModel", name := "back", desc := "(I)I" } : Jvm.MethodName) ({ cls := "SkyMarginsModel", name := "back", desc := "(I)I" } : Jvm.MethodName)) ∈ pg_W := tb_6 (i := 191) rfl rfl
theorem pw6_192 : (Jvm.Cond.code ({ cls := "SkyMarginsModel", name := "back", desc := "(I)I" } : Jvm.MethodName) prog_14_method_6_code (3 : Nat) (Option.some Jvm.ClassFile.FieldType.int)) ∈ pg_W := tb_6 (i := 192) rfl rfl
theorem pw6_193 : (Jvm.Cond.methodLink "SkyMarginsLaw" (17 : Nat) ({ cls := "SkyMarginsModel", name := "copy", desc := "(II)I" } : Jvm.MethodName)) ∈ pg_W := tb_6 (i := 193) rfl rfl
theorem pw6_194 : (Jvm.Cond.instanceMethod ({ cls := "SkyMarginsModel", name := "copy", desc := "(II)I" } : Jvm.MethodName)) ∈ pg_W := tb_6 (i := 194) rfl rfl
theorem pw6_195 : (Jvm.Cond.selects "SkyMarginsModel" ({ cls := "SkyMarginsModel", name := "copy", desc := "(II)I" } : Jvm.MethodName) ({ cls := "SkyMarginsModel", name := "copy", desc := "(II)I" } : Jvm.MethodName)) ∈ pg_W := tb_6 (i := 195) rfl rfl
theorem pw6_196 : (Jvm.Cond.code ({ cls := "SkyMarginsModel", name := "copy", desc := "(II)I" } : Jvm.MethodName) prog_14_method_17_code (4 : Nat) (Option.some Jvm.ClassFile.FieldType.int)) ∈ pg_W := tb_6 (i := 196) rfl rfl
theorem pw6_197 : (Jvm.Cond.methodLink "SkyMarginsModel" (124 : Nat) ({ cls := "SkyMarginsModel", name := "copies", desc := "()I" } : Jvm.MethodName)) ∈ pg_W := tb_6 (i := 197) rfl rfl
theorem pw6_199 : (Jvm.Cond.instanceMethod ({ cls := "SkyMarginsModel", name := "copies", desc := "()I" } : Jvm.MethodName)) ∈ pg_W := tb_6 (i := 199) rfl rfl
theorem pw6_200 : (Jvm.Cond.code ({ cls := "SkyMarginsModel", name := "copies", desc := "()I" } : Jvm.MethodName) prog_14_method_8_code (1 : Nat) (Option.some Jvm.ClassFile.FieldType.int)) ∈ pg_W := tb_6 (i := 200) rfl rfl
theorem pw6_201 : (Jvm.Cond.methodLink "SkyMarginsLaw" (21 : Nat) ({ cls := "SkyMarginsModel", name := "look", desc := "(II)I" } : Jvm.MethodName)) ∈ pg_W := tb_6 (i := 201) rfl rfl
theorem pw6_202 : (Jvm.Cond.instanceMethod ({ cls := "SkyMarginsModel", name := "look", desc := "(II)I" } : Jvm.MethodName)) ∈ pg_W := tb_6 (i := 202) rfl rfl
theorem pw6_203 : (Jvm.Cond.selects "SkyMarginsModel" ({ cls := "SkyMarginsModel", name := "look", desc := "(II)I" } : Jvm.MethodName) ({ cls := "SkyMarginsModel", name := "look", desc := "(II)I" } : Jvm.MethodName)) ∈ pg_W := tb_6 (i := 203) rfl rfl
theorem pw6_204 : (Jvm.Cond.code ({ cls := "SkyMarginsModel", name := "look", desc := "(II)I" } : Jvm.MethodName) prog_14_method_18_code (3 : Nat) (Option.some Jvm.ClassFile.FieldType.int)) ∈ pg_W := tb_6 (i := 204) rfl rfl
theorem pw6_205 : (Jvm.Cond.methodLink "SkyMarginsModel" (128 : Nat) ({ cls := "SkyMarginsModel", name := "isCopy", desc := "(I)Z" } : Jvm.MethodName)) ∈ pg_W := tb_6 (i := 205) rfl rfl
theorem pw6_207 : (Jvm.Cond.instanceMethod ({ cls := "SkyMarginsModel", name := "isCopy", desc := "(I)Z" } : Jvm.MethodName)) ∈ pg_W := tb_6 (i := 207) rfl rfl
theorem pw6_208 : (Jvm.Cond.code ({ cls := "SkyMarginsModel", name := "isCopy", desc := "(I)Z" } : Jvm.MethodName) prog_14_method_9_code (2 : Nat) (Option.some Jvm.ClassFile.FieldType.boolean)) ∈ pg_W := tb_6 (i := 208) rfl rfl
theorem pw6_209 : (Jvm.Cond.methodLink "SkyMarginsModel" (132 : Nat) ({ cls := "SkyMarginsModel", name := "replaces", desc := "(II)I" } : Jvm.MethodName)) ∈ pg_W := tb_6 (i := 209) rfl rfl
theorem pw6_211 : (Jvm.Cond.instanceMethod ({ cls := "SkyMarginsModel", name := "replaces", desc := "(II)I" } : Jvm.MethodName)) ∈ pg_W := tb_6 (i := 211) rfl rfl
theorem pw6_212 : (Jvm.Cond.code ({ cls := "SkyMarginsModel", name := "replaces", desc := "(II)I" } : Jvm.MethodName) prog_14_method_16_code (4 : Nat) (Option.some Jvm.ClassFile.FieldType.int)) ∈ pg_W := tb_6 (i := 212) rfl rfl
theorem pw6_213 : (Jvm.Cond.methodLink "SkyMarginsLaw" (26 : Nat) ({ cls := "SkyMarginsModel", name := "stay", desc := "(IIII)I" } : Jvm.MethodName)) ∈ pg_W := tb_6 (i := 213) rfl rfl
theorem pw6_214 : (Jvm.Cond.instanceMethod ({ cls := "SkyMarginsModel", name := "stay", desc := "(IIII)I" } : Jvm.MethodName)) ∈ pg_W := tb_6 (i := 214) rfl rfl
theorem pw6_215 : (Jvm.Cond.selects "SkyMarginsModel" ({ cls := "SkyMarginsModel", name := "stay", desc := "(IIII)I" } : Jvm.MethodName) ({ cls := "SkyMarginsModel", name := "stay", desc := "(IIII)I" } : Jvm.MethodName)) ∈ pg_W := tb_6 (i := 215) rfl rfl
theorem pw6_216 : (Jvm.Cond.code ({ cls := "SkyMarginsModel", name := "stay", desc := "(IIII)I" } : Jvm.MethodName) prog_14_method_20_code (6 : Nat) (Option.some Jvm.ClassFile.FieldType.int)) ∈ pg_W := tb_6 (i := 216) rfl rfl
theorem pw6_217 : (Jvm.Cond.methodLink "SkyMarginsModel" (136 : Nat) ({ cls := "SkyMarginsModel", name := "areYears", desc := "(II)Z" } : Jvm.MethodName)) ∈ pg_W := tb_6 (i := 217) rfl rfl
theorem pw6_218 : (Jvm.Cond.static ({ cls := "SkyMarginsModel", name := "areYears", desc := "(II)Z" } : Jvm.MethodName)) ∈ pg_W := tb_6 (i := 218) rfl rfl
theorem pw6_219 : (Jvm.Cond.code ({ cls := "SkyMarginsModel", name := "areYears", desc := "(II)Z" } : Jvm.MethodName) prog_14_method_19_code (2 : Nat) (Option.some Jvm.ClassFile.FieldType.boolean)) ∈ pg_W := tb_6 (i := 219) rfl rfl
theorem pw6_220 : (Jvm.Cond.methodLink "SkyMarginsLaw" (30 : Nat) ({ cls := "SkyMarginsModel", name := "hand", desc := "(II)I" } : Jvm.MethodName)) ∈ pg_W := tb_6 (i := 220) rfl rfl
theorem pw6_221 : (Jvm.Cond.instanceMethod ({ cls := "SkyMarginsModel", name := "hand", desc := "(II)I" } : Jvm.MethodName)) ∈ pg_W := tb_6 (i := 221) rfl rfl
theorem pw6_222 : (Jvm.Cond.selects "SkyMarginsModel" ({ cls := "SkyMarginsModel", name := "hand", desc := "(II)I" } : Jvm.MethodName) ({ cls := "SkyMarginsModel", name := "hand", desc := "(II)I" } : Jvm.MethodName)) ∈ pg_W := tb_6 (i := 222) rfl rfl
theorem pw6_223 : (Jvm.Cond.code ({ cls := "SkyMarginsModel", name := "hand", desc := "(II)I" } : Jvm.MethodName) prog_14_method_21_code (5 : Nat) (Option.some Jvm.ClassFile.FieldType.int)) ∈ pg_W := tb_6 (i := 223) rfl rfl
theorem pw6_224 : (Jvm.Cond.methodLink "SkyMarginsLaw" (35 : Nat) ({ cls := "SkyMarginsModel", name := "form", desc := "(III)I" } : Jvm.MethodName)) ∈ pg_W := tb_6 (i := 224) rfl rfl
theorem pw6_225 : (Jvm.Cond.instanceMethod ({ cls := "SkyMarginsModel", name := "form", desc := "(III)I" } : Jvm.MethodName)) ∈ pg_W := tb_6 (i := 225) rfl rfl
theorem pw6_226 : (Jvm.Cond.selects "SkyMarginsModel" ({ cls := "SkyMarginsModel", name := "form", desc := "(III)I" } : Jvm.MethodName) ({ cls := "SkyMarginsModel", name := "form", desc := "(III)I" } : Jvm.MethodName)) ∈ pg_W := tb_6 (i := 226) rfl rfl
theorem pw6_227 : (Jvm.Cond.code ({ cls := "SkyMarginsModel", name := "form", desc := "(III)I" } : Jvm.MethodName) prog_14_method_22_code (4 : Nat) (Option.some Jvm.ClassFile.FieldType.int)) ∈ pg_W := tb_6 (i := 227) rfl rfl
theorem pw6_228 : (Jvm.Cond.methodLink "SkyMarginsModel" (140 : Nat) ({ cls := "SkyMarginsModel", name := "isHand", desc := "(I)Z" } : Jvm.MethodName)) ∈ pg_W := tb_6 (i := 228) rfl rfl
theorem pw6_230 : (Jvm.Cond.instanceMethod ({ cls := "SkyMarginsModel", name := "isHand", desc := "(I)Z" } : Jvm.MethodName)) ∈ pg_W := tb_6 (i := 230) rfl rfl
theorem pw6_231 : (Jvm.Cond.code ({ cls := "SkyMarginsModel", name := "isHand", desc := "(I)Z" } : Jvm.MethodName) prog_14_method_10_code (2 : Nat) (Option.some Jvm.ClassFile.FieldType.boolean)) ∈ pg_W := tb_6 (i := 231) rfl rfl
theorem pw6_232 : (Jvm.Cond.methodLink "SkyMarginsLaw" (39 : Nat) ({ cls := "SkyMarginsModel", name := "sample", desc := "(III)I" } : Jvm.MethodName)) ∈ pg_W := tb_6 (i := 232) rfl rfl
theorem pw6_233 : (Jvm.Cond.instanceMethod ({ cls := "SkyMarginsModel", name := "sample", desc := "(III)I" } : Jvm.MethodName)) ∈ pg_W := tb_6 (i := 233) rfl rfl
theorem pw6_234 : (Jvm.Cond.selects "SkyMarginsModel" ({ cls := "SkyMarginsModel", name := "sample", desc := "(III)I" } : Jvm.MethodName) ({ cls := "SkyMarginsModel", name := "sample", desc := "(III)I" } : Jvm.MethodName)) ∈ pg_W := tb_6 (i := 234) rfl rfl
theorem pw6_235 : (Jvm.Cond.code ({ cls := "SkyMarginsModel", name := "sample", desc := "(III)I" } : Jvm.MethodName) prog_14_method_23_code (4 : Nat) (Option.some Jvm.ClassFile.FieldType.int)) ∈ pg_W := tb_6 (i := 235) rfl rfl
theorem pw6_236 : (Jvm.Cond.methodLink "SkyMarginsLaw" (44 : Nat) ({ cls := "SkyMarginsModel", name := "note", desc := "(IIIII)I" } : Jvm.MethodName)) ∈ pg_W := tb_6 (i := 236) rfl rfl
theorem pw6_237 : (Jvm.Cond.instanceMethod ({ cls := "SkyMarginsModel", name := "note", desc := "(IIIII)I" } : Jvm.MethodName)) ∈ pg_W := tb_6 (i := 237) rfl rfl
theorem pw6_238 : (Jvm.Cond.selects "SkyMarginsModel" ({ cls := "SkyMarginsModel", name := "note", desc := "(IIIII)I" } : Jvm.MethodName) ({ cls := "SkyMarginsModel", name := "note", desc := "(IIIII)I" } : Jvm.MethodName)) ∈ pg_W := tb_6 (i := 238) rfl rfl
theorem pw6_239 : (Jvm.Cond.code ({ cls := "SkyMarginsModel", name := "note", desc := "(IIIII)I" } : Jvm.MethodName) prog_14_method_28_code (6 : Nat) (Option.some Jvm.ClassFile.FieldType.int)) ∈ pg_W := tb_6 (i := 239) rfl rfl
theorem pw7_0 : (Jvm.Cond.methodLink "SkyMarginsModel" (152 : Nat) ({ cls := "SkyMarginsModel", name := "hasIt", desc := "(IIII)Z" } : Jvm.MethodName)) ∈ pg_W := tb_7 (i := 0) rfl rfl
theorem pw7_2 : (Jvm.Cond.instanceMethod ({ cls := "SkyMarginsModel", name := "hasIt", desc := "(IIII)Z" } : Jvm.MethodName)) ∈ pg_W := tb_7 (i := 2) rfl rfl
theorem pw7_3 : (Jvm.Cond.code ({ cls := "SkyMarginsModel", name := "hasIt", desc := "(IIII)Z" } : Jvm.MethodName) prog_14_method_26_code (5 : Nat) (Option.some Jvm.ClassFile.FieldType.boolean)) ∈ pg_W := tb_7 (i := 3) rfl rfl
theorem pw7_4 : (Jvm.Cond.methodLink "SkyMarginsModel" (146 : Nat) ({ cls := "SkyMarginsModel", name := "has", desc := "(III)Z" } : Jvm.MethodName)) ∈ pg_W := tb_7 (i := 4) rfl rfl
theorem pw7_6 : (Jvm.Cond.instanceMethod ({ cls := "SkyMarginsModel", name := "has", desc := "(III)Z" } : Jvm.MethodName)) ∈ pg_W := tb_7 (i := 6) rfl rfl
theorem pw7_7 : (Jvm.Cond.code ({ cls := "SkyMarginsModel", name := "has", desc := "(III)Z" } : Jvm.MethodName) prog_14_method_24_code (5 : Nat) (Option.some Jvm.ClassFile.FieldType.boolean)) ∈ pg_W := tb_7 (i := 7) rfl rfl
theorem pw7_8 : (Jvm.Cond.methodLink "SkyMarginsModel" (143 : Nat) ({ cls := "SkyMarginsModel", name := "noteOf", desc := "(II)I" } : Jvm.MethodName)) ∈ pg_W := tb_7 (i := 8) rfl rfl
theorem pw7_10 : (Jvm.Cond.instanceMethod ({ cls := "SkyMarginsModel", name := "noteOf", desc := "(II)I" } : Jvm.MethodName)) ∈ pg_W := tb_7 (i := 10) rfl rfl
theorem pw7_11 : (Jvm.Cond.code ({ cls := "SkyMarginsModel", name := "noteOf", desc := "(II)I" } : Jvm.MethodName) prog_14_method_15_code (3 : Nat) (Option.some Jvm.ClassFile.FieldType.int)) ∈ pg_W := tb_7 (i := 11) rfl rfl
theorem pw7_12 : (Jvm.Cond.methodLink "SkyMarginsModel" (149 : Nat) ({ cls := "SkyMarginsModel", name := "hasKind", desc := "(III)Z" } : Jvm.MethodName)) ∈ pg_W := tb_7 (i := 12) rfl rfl
theorem pw7_14 : (Jvm.Cond.instanceMethod ({ cls := "SkyMarginsModel", name := "hasKind", desc := "(III)Z" } : Jvm.MethodName)) ∈ pg_W := tb_7 (i := 14) rfl rfl
theorem pw7_15 : (Jvm.Cond.code ({ cls := "SkyMarginsModel", name := "hasKind", desc := "(III)Z" } : Jvm.MethodName) prog_14_method_25_code (5 : Nat) (Option.some Jvm.ClassFile.FieldType.boolean)) ∈ pg_W := tb_7 (i := 15) rfl rfl
theorem pw7_16 : (Jvm.Cond.methodLink "SkyMarginsModel" (156 : Nat) ({ cls := "SkyMarginsModel", name := "notes", desc := "(IIIII)V" } : Jvm.MethodName)) ∈ pg_W := tb_7 (i := 16) rfl rfl
theorem pw7_18 : (Jvm.Cond.instanceMethod ({ cls := "SkyMarginsModel", name := "notes", desc := "(IIIII)V" } : Jvm.MethodName)) ∈ pg_W := tb_7 (i := 18) rfl rfl
theorem pw7_19 : (Jvm.Cond.code ({ cls := "SkyMarginsModel", name := "notes", desc := "(IIIII)V" } : Jvm.MethodName) prog_14_method_27_code (7 : Nat) (Option.none : Option Jvm.ClassFile.FieldType)) ∈ pg_W := tb_7 (i := 19) rfl rfl
theorem pw7_20 : (Jvm.Cond.methodLink "SkyMarginsLaw" (48 : Nat) ({ cls := "SkyMarginsModel", name := "of", desc := "(II)I" } : Jvm.MethodName)) ∈ pg_W := tb_7 (i := 20) rfl rfl
theorem pw7_21 : (Jvm.Cond.instanceMethod ({ cls := "SkyMarginsModel", name := "of", desc := "(II)I" } : Jvm.MethodName)) ∈ pg_W := tb_7 (i := 21) rfl rfl
theorem pw7_22 : (Jvm.Cond.selects "SkyMarginsModel" ({ cls := "SkyMarginsModel", name := "of", desc := "(II)I" } : Jvm.MethodName) ({ cls := "SkyMarginsModel", name := "of", desc := "(II)I" } : Jvm.MethodName)) ∈ pg_W := tb_7 (i := 22) rfl rfl
theorem pw7_23 : (Jvm.Cond.code ({ cls := "SkyMarginsModel", name := "of", desc := "(II)I" } : Jvm.MethodName) prog_14_method_30_code (3 : Nat) (Option.some Jvm.ClassFile.FieldType.int)) ∈ pg_W := tb_7 (i := 23) rfl rfl
theorem pw7_24 : (Jvm.Cond.methodLink "SkyMarginsModel" (160 : Nat) ({ cls := "SkyMarginsModel", name := "sharedBy", desc := "(II)I" } : Jvm.MethodName)) ∈ pg_W := tb_7 (i := 24) rfl rfl
theorem pw7_26 : (Jvm.Cond.instanceMethod ({ cls := "SkyMarginsModel", name := "sharedBy", desc := "(II)I" } : Jvm.MethodName)) ∈ pg_W := tb_7 (i := 26) rfl rfl
theorem pw7_27 : (Jvm.Cond.code ({ cls := "SkyMarginsModel", name := "sharedBy", desc := "(II)I" } : Jvm.MethodName) prog_14_method_29_code (5 : Nat) (Option.some Jvm.ClassFile.FieldType.int)) ∈ pg_W := tb_7 (i := 27) rfl rfl
theorem pw7_28 : (Jvm.Cond.methodLink "SkyMarginsLaw" (52 : Nat) ({ cls := "SkyMarginsModel", name := "terms", desc := "(II)I" } : Jvm.MethodName)) ∈ pg_W := tb_7 (i := 28) rfl rfl
theorem pw7_29 : (Jvm.Cond.instanceMethod ({ cls := "SkyMarginsModel", name := "terms", desc := "(II)I" } : Jvm.MethodName)) ∈ pg_W := tb_7 (i := 29) rfl rfl
theorem pw7_30 : (Jvm.Cond.selects "SkyMarginsModel" ({ cls := "SkyMarginsModel", name := "terms", desc := "(II)I" } : Jvm.MethodName) ({ cls := "SkyMarginsModel", name := "terms", desc := "(II)I" } : Jvm.MethodName)) ∈ pg_W := tb_7 (i := 30) rfl rfl
theorem pw7_31 : (Jvm.Cond.code ({ cls := "SkyMarginsModel", name := "terms", desc := "(II)I" } : Jvm.MethodName) prog_14_method_31_code (3 : Nat) (Option.some Jvm.ClassFile.FieldType.int)) ∈ pg_W := tb_7 (i := 31) rfl rfl
theorem pw7_32 : (Jvm.Cond.methodLink "SkyMarginsLaw" (65 : Nat) ({ cls := "SkyMarginsModel", name := "row", desc := "(I)I" } : Jvm.MethodName)) ∈ pg_W := tb_7 (i := 32) rfl rfl
theorem pw7_33 : (Jvm.Cond.instanceMethod ({ cls := "SkyMarginsModel", name := "row", desc := "(I)I" } : Jvm.MethodName)) ∈ pg_W := tb_7 (i := 33) rfl rfl
theorem pw7_34 : (Jvm.Cond.selects "SkyMarginsModel" ({ cls := "SkyMarginsModel", name := "row", desc := "(I)I" } : Jvm.MethodName) ({ cls := "SkyMarginsModel", name := "row", desc := "(I)I" } : Jvm.MethodName)) ∈ pg_W := tb_7 (i := 34) rfl rfl
theorem pw7_35 : (Jvm.Cond.code ({ cls := "SkyMarginsModel", name := "row", desc := "(I)I" } : Jvm.MethodName) prog_14_method_32_code (7 : Nat) (Option.some Jvm.ClassFile.FieldType.int)) ∈ pg_W := tb_7 (i := 35) rfl rfl
theorem pw7_36 : (Jvm.Cond.methodLink "SkyMarginsLaw" (70 : Nat) ({ cls := "SkyMarginsModel", name := "trimmed", desc := "()I" } : Jvm.MethodName)) ∈ pg_W := tb_7 (i := 36) rfl rfl
theorem pw7_37 : (Jvm.Cond.instanceMethod ({ cls := "SkyMarginsModel", name := "trimmed", desc := "()I" } : Jvm.MethodName)) ∈ pg_W := tb_7 (i := 37) rfl rfl
theorem pw7_38 : (Jvm.Cond.selects "SkyMarginsModel" ({ cls := "SkyMarginsModel", name := "trimmed", desc := "()I" } : Jvm.MethodName) ({ cls := "SkyMarginsModel", name := "trimmed", desc := "()I" } : Jvm.MethodName)) ∈ pg_W := tb_7 (i := 38) rfl rfl
theorem pw7_39 : (Jvm.Cond.code ({ cls := "SkyMarginsModel", name := "trimmed", desc := "()I" } : Jvm.MethodName) prog_14_method_33_code (1 : Nat) (Option.some Jvm.ClassFile.FieldType.int)) ∈ pg_W := tb_7 (i := 39) rfl rfl
theorem pw7_40 : (Jvm.Cond.methodLink "SkyMarginsLaw" (56 : Nat) ({ cls := "SkyMarginsModel", name := "feed", desc := "(IIIII)I" } : Jvm.MethodName)) ∈ pg_W := tb_7 (i := 40) rfl rfl
theorem pw7_41 : (Jvm.Cond.instanceMethod ({ cls := "SkyMarginsModel", name := "feed", desc := "(IIIII)I" } : Jvm.MethodName)) ∈ pg_W := tb_7 (i := 41) rfl rfl
theorem pw7_42 : (Jvm.Cond.selects "SkyMarginsModel" ({ cls := "SkyMarginsModel", name := "feed", desc := "(IIIII)I" } : Jvm.MethodName) ({ cls := "SkyMarginsModel", name := "feed", desc := "(IIIII)I" } : Jvm.MethodName)) ∈ pg_W := tb_7 (i := 42) rfl rfl
theorem pw7_43 : (Jvm.Cond.code ({ cls := "SkyMarginsModel", name := "feed", desc := "(IIIII)I" } : Jvm.MethodName) prog_14_method_34_code (7 : Nat) (Option.some Jvm.ClassFile.FieldType.int)) ∈ pg_W := tb_7 (i := 43) rfl rfl
theorem pw7_44 : (Jvm.Cond.methodLink "SkyMarginsLaw" (61 : Nat) ({ cls := "SkyMarginsModel", name := "end", desc := "(I)I" } : Jvm.MethodName)) ∈ pg_W := tb_7 (i := 44) rfl rfl
theorem pw7_45 : (Jvm.Cond.instanceMethod ({ cls := "SkyMarginsModel", name := "end", desc := "(I)I" } : Jvm.MethodName)) ∈ pg_W := tb_7 (i := 45) rfl rfl
theorem pw7_46 : (Jvm.Cond.selects "SkyMarginsModel" ({ cls := "SkyMarginsModel", name := "end", desc := "(I)I" } : Jvm.MethodName) ({ cls := "SkyMarginsModel", name := "end", desc := "(I)I" } : Jvm.MethodName)) ∈ pg_W := tb_7 (i := 46) rfl rfl
theorem pw7_47 : (Jvm.Cond.code ({ cls := "SkyMarginsModel", name := "end", desc := "(I)I" } : Jvm.MethodName) prog_14_method_35_code (2 : Nat) (Option.some Jvm.ClassFile.FieldType.int)) ∈ pg_W := tb_7 (i := 47) rfl rfl
theorem pw7_48 : (Jvm.Cond.methodLink "SkyMarginsLaw" (74 : Nat) ({ cls := "SkyMarginsModel", name := "text", desc := "()I" } : Jvm.MethodName)) ∈ pg_W := tb_7 (i := 48) rfl rfl
theorem pw7_49 : (Jvm.Cond.instanceMethod ({ cls := "SkyMarginsModel", name := "text", desc := "()I" } : Jvm.MethodName)) ∈ pg_W := tb_7 (i := 49) rfl rfl
theorem pw7_50 : (Jvm.Cond.selects "SkyMarginsModel" ({ cls := "SkyMarginsModel", name := "text", desc := "()I" } : Jvm.MethodName) ({ cls := "SkyMarginsModel", name := "text", desc := "()I" } : Jvm.MethodName)) ∈ pg_W := tb_7 (i := 50) rfl rfl
theorem pw7_51 : (Jvm.Cond.code ({ cls := "SkyMarginsModel", name := "text", desc := "()I" } : Jvm.MethodName) prog_14_method_54_code (3 : Nat) (Option.some Jvm.ClassFile.FieldType.int)) ∈ pg_W := tb_7 (i := 51) rfl rfl
theorem pw7_52 : (Jvm.Cond.methodLink "SkyMarginsModel" (236 : Nat) ({ cls := "SkyMarginsModel", name := "reads", desc := "()Z" } : Jvm.MethodName)) ∈ pg_W := tb_7 (i := 52) rfl rfl
theorem pw7_54 : (Jvm.Cond.instanceMethod ({ cls := "SkyMarginsModel", name := "reads", desc := "()Z" } : Jvm.MethodName)) ∈ pg_W := tb_7 (i := 54) rfl rfl
theorem pw7_55 : (Jvm.Cond.code ({ cls := "SkyMarginsModel", name := "reads", desc := "()Z" } : Jvm.MethodName) prog_14_method_53_code (2 : Nat) (Option.some Jvm.ClassFile.FieldType.boolean)) ∈ pg_W := tb_7 (i := 55) rfl rfl
theorem pw7_56 : (Jvm.Cond.methodLink "SkyMarginsModel" (230 : Nat) ({ cls := "SkyMarginsModel", name := "splits", desc := "(I)V" } : Jvm.MethodName)) ∈ pg_W := tb_7 (i := 56) rfl rfl
theorem pw7_58 : (Jvm.Cond.instanceMethod ({ cls := "SkyMarginsModel", name := "splits", desc := "(I)V" } : Jvm.MethodName)) ∈ pg_W := tb_7 (i := 58) rfl rfl
theorem pw7_59 : (Jvm.Cond.code ({ cls := "SkyMarginsModel", name := "splits", desc := "(I)V" } : Jvm.MethodName) prog_14_method_39_code (6 : Nat) (Option.none : Option Jvm.ClassFile.FieldType)) ∈ pg_W := tb_7 (i := 59) rfl rfl
theorem pw7_60 : (Jvm.Cond.methodLink "SkyMarginsModel" (172 : Nat) ({ cls := "SkyMarginsModel", name := "isSmall", desc := "(I)Z" } : Jvm.MethodName)) ∈ pg_W := tb_7 (i := 60) rfl rfl
theorem pw7_61 : (Jvm.Cond.static ({ cls := "SkyMarginsModel", name := "isSmall", desc := "(I)Z" } : Jvm.MethodName)) ∈ pg_W := tb_7 (i := 61) rfl rfl
theorem pw7_62 : (Jvm.Cond.code ({ cls := "SkyMarginsModel", name := "isSmall", desc := "(I)Z" } : Jvm.MethodName) prog_14_method_36_code (1 : Nat) (Option.some Jvm.ClassFile.FieldType.boolean)) ∈ pg_W := tb_7 (i := 62) rfl rfl
theorem pw7_63 : (Jvm.Cond.methodLink "SkyMarginsModel" (175 : Nat) ({ cls := "SkyMarginsModel", name := "isDigit", desc := "(I)Z" } : Jvm.MethodName)) ∈ pg_W := tb_7 (i := 63) rfl rfl
theorem pw7_64 : (Jvm.Cond.static ({ cls := "SkyMarginsModel", name := "isDigit", desc := "(I)Z" } : Jvm.MethodName)) ∈ pg_W := tb_7 (i := 64) rfl rfl
theorem pw7_65 : (Jvm.Cond.code ({ cls := "SkyMarginsModel", name := "isDigit", desc := "(I)Z" } : Jvm.MethodName) prog_14_method_37_code (1 : Nat) (Option.some Jvm.ClassFile.FieldType.boolean)) ∈ pg_W := tb_7 (i := 65) rfl rfl
theorem pw7_66 : (Jvm.Cond.methodLink "SkyMarginsModel" (178 : Nat) ({ cls := "SkyMarginsModel", name := "wordOf", desc := "(II)I" } : Jvm.MethodName)) ∈ pg_W := tb_7 (i := 66) rfl rfl
theorem pw7_68 : (Jvm.Cond.instanceMethod ({ cls := "SkyMarginsModel", name := "wordOf", desc := "(II)I" } : Jvm.MethodName)) ∈ pg_W := tb_7 (i := 68) rfl rfl
theorem pw7_69 : (Jvm.Cond.code ({ cls := "SkyMarginsModel", name := "wordOf", desc := "(II)I" } : Jvm.MethodName) prog_14_method_38_code (8 : Nat) (Option.some Jvm.ClassFile.FieldType.int)) ∈ pg_W := tb_7 (i := 69) rfl rfl
theorem pw7_70 : (Jvm.Cond.constant "SkyMarginsModel" (181 : Nat) (1000000 : Int32)) ∈ pg_W := tb_7 (i := 70) rfl rfl
theorem pw7_71 : (Jvm.Cond.methodLink "SkyMarginsModel" (233 : Nat) ({ cls := "SkyMarginsModel", name := "readClause", desc := "()V" } : Jvm.MethodName)) ∈ pg_W := tb_7 (i := 71) rfl rfl
theorem pw7_73 : (Jvm.Cond.instanceMethod ({ cls := "SkyMarginsModel", name := "readClause", desc := "()V" } : Jvm.MethodName)) ∈ pg_W := tb_7 (i := 73) rfl rfl
theorem pw7_74 : (Jvm.Cond.code ({ cls := "SkyMarginsModel", name := "readClause", desc := "()V" } : Jvm.MethodName) prog_14_method_46_code (1 : Nat) (Option.none : Option Jvm.ClassFile.FieldType)) ∈ pg_W := tb_7 (i := 74) rfl rfl
theorem pw7_75 : (Jvm.Cond.methodLink "SkyMarginsModel" (192 : Nat) ({ cls := "SkyMarginsModel", name := "takes", desc := "(I)Z" } : Jvm.MethodName)) ∈ pg_W := tb_7 (i := 75) rfl rfl
theorem pw7_77 : (Jvm.Cond.instanceMethod ({ cls := "SkyMarginsModel", name := "takes", desc := "(I)Z" } : Jvm.MethodName)) ∈ pg_W := tb_7 (i := 77) rfl rfl
theorem pw7_78 : (Jvm.Cond.code ({ cls := "SkyMarginsModel", name := "takes", desc := "(I)Z" } : Jvm.MethodName) prog_14_method_42_code (3 : Nat) (Option.some Jvm.ClassFile.FieldType.boolean)) ∈ pg_W := tb_7 (i := 78) rfl rfl
theorem pw7_79 : (Jvm.Cond.methodLink "SkyMarginsModel" (185 : Nat) ({ cls := "SkyMarginsModel", name := "fine", desc := "()Z" } : Jvm.MethodName)) ∈ pg_W := tb_7 (i := 79) rfl rfl
theorem pw7_81 : (Jvm.Cond.instanceMethod ({ cls := "SkyMarginsModel", name := "fine", desc := "()Z" } : Jvm.MethodName)) ∈ pg_W := tb_7 (i := 81) rfl rfl
theorem pw7_82 : (Jvm.Cond.code ({ cls := "SkyMarginsModel", name := "fine", desc := "()Z" } : Jvm.MethodName) prog_14_method_40_code (1 : Nat) (Option.some Jvm.ClassFile.FieldType.boolean)) ∈ pg_W := tb_7 (i := 82) rfl rfl
theorem pw7_83 : (Jvm.Cond.methodLink "SkyMarginsModel" (201 : Nat) ({ cls := "SkyMarginsModel", name := "readSum", desc := "(I)V" } : Jvm.MethodName)) ∈ pg_W := tb_7 (i := 83) rfl rfl
theorem pw7_85 : (Jvm.Cond.instanceMethod ({ cls := "SkyMarginsModel", name := "readSum", desc := "(I)V" } : Jvm.MethodName)) ∈ pg_W := tb_7 (i := 85) rfl rfl
theorem pw7_86 : (Jvm.Cond.code ({ cls := "SkyMarginsModel", name := "readSum", desc := "(I)V" } : Jvm.MethodName) prog_14_method_50_code (2 : Nat) (Option.none : Option Jvm.ClassFile.FieldType)) ∈ pg_W := tb_7 (i := 86) rfl rfl
theorem pw7_87 : (Jvm.Cond.methodLink "SkyMarginsModel" (221 : Nat) ({ cls := "SkyMarginsModel", name := "readTerm", desc := "(I)V" } : Jvm.MethodName)) ∈ pg_W := tb_7 (i := 87) rfl rfl
theorem pw7_89 : (Jvm.Cond.instanceMethod ({ cls := "SkyMarginsModel", name := "readTerm", desc := "(I)V" } : Jvm.MethodName)) ∈ pg_W := tb_7 (i := 89) rfl rfl
theorem pw7_90 : (Jvm.Cond.code ({ cls := "SkyMarginsModel", name := "readTerm", desc := "(I)V" } : Jvm.MethodName) prog_14_method_51_code (2 : Nat) (Option.none : Option Jvm.ClassFile.FieldType)) ∈ pg_W := tb_7 (i := 90) rfl rfl
theorem pw7_91 : (Jvm.Cond.methodLink "SkyMarginsModel" (224 : Nat) ({ cls := "SkyMarginsModel", name := "readPart", desc := "(I)V" } : Jvm.MethodName)) ∈ pg_W := tb_7 (i := 91) rfl rfl
theorem pw7_93 : (Jvm.Cond.instanceMethod ({ cls := "SkyMarginsModel", name := "readPart", desc := "(I)V" } : Jvm.MethodName)) ∈ pg_W := tb_7 (i := 93) rfl rfl
theorem pw7_94 : (Jvm.Cond.code ({ cls := "SkyMarginsModel", name := "readPart", desc := "(I)V" } : Jvm.MethodName) prog_14_method_52_code (3 : Nat) (Option.none : Option Jvm.ClassFile.FieldType)) ∈ pg_W := tb_7 (i := 94) rfl rfl
theorem pw7_95 : (Jvm.Cond.methodLink "SkyMarginsModel" (217 : Nat) ({ cls := "SkyMarginsModel", name := "sign", desc := "(C)I" } : Jvm.MethodName)) ∈ pg_W := tb_7 (i := 95) rfl rfl
theorem pw7_96 : (Jvm.Cond.static ({ cls := "SkyMarginsModel", name := "sign", desc := "(C)I" } : Jvm.MethodName)) ∈ pg_W := tb_7 (i := 96) rfl rfl
theorem pw7_97 : (Jvm.Cond.code ({ cls := "SkyMarginsModel", name := "sign", desc := "(C)I" } : Jvm.MethodName) prog_14_method_45_code (1 : Nat) (Option.some Jvm.ClassFile.FieldType.int)) ∈ pg_W := tb_7 (i := 97) rfl rfl
theorem pw7_98 : (Jvm.Cond.methodLink "SkyMarginsModel" (195 : Nat) ({ cls := "SkyMarginsModel", name := "faults", desc := "()V" } : Jvm.MethodName)) ∈ pg_W := tb_7 (i := 98) rfl rfl
theorem pw7_100 : (Jvm.Cond.instanceMethod ({ cls := "SkyMarginsModel", name := "faults", desc := "()V" } : Jvm.MethodName)) ∈ pg_W := tb_7 (i := 100) rfl rfl
theorem pw7_101 : (Jvm.Cond.code ({ cls := "SkyMarginsModel", name := "faults", desc := "()V" } : Jvm.MethodName) prog_14_method_41_code (1 : Nat) (Option.none : Option Jvm.ClassFile.FieldType)) ∈ pg_W := tb_7 (i := 101) rfl rfl
theorem pw7_102 : (Jvm.Cond.methodLink "SkyMarginsModel" (205 : Nat) ({ cls := "SkyMarginsModel", name := "must", desc := "(I)V" } : Jvm.MethodName)) ∈ pg_W := tb_7 (i := 102) rfl rfl
theorem pw7_104 : (Jvm.Cond.instanceMethod ({ cls := "SkyMarginsModel", name := "must", desc := "(I)V" } : Jvm.MethodName)) ∈ pg_W := tb_7 (i := 104) rfl rfl
theorem pw7_105 : (Jvm.Cond.code ({ cls := "SkyMarginsModel", name := "must", desc := "(I)V" } : Jvm.MethodName) prog_14_method_43_code (2 : Nat) (Option.none : Option Jvm.ClassFile.FieldType)) ∈ pg_W := tb_7 (i := 105) rfl rfl
theorem pw7_106 : (Jvm.Cond.methodLink "SkyMarginsModel" (227 : Nat) ({ cls := "SkyMarginsModel", name := "leaf", desc := "()V" } : Jvm.MethodName)) ∈ pg_W := tb_7 (i := 106) rfl rfl
theorem pw7_108 : (Jvm.Cond.instanceMethod ({ cls := "SkyMarginsModel", name := "leaf", desc := "()V" } : Jvm.MethodName)) ∈ pg_W := tb_7 (i := 108) rfl rfl
theorem pw7_109 : (Jvm.Cond.code ({ cls := "SkyMarginsModel", name := "leaf", desc := "()V" } : Jvm.MethodName) prog_14_method_44_code (1 : Nat) (Option.none : Option Jvm.ClassFile.FieldType)) ∈ pg_W := tb_7 (i := 109) rfl rfl
theorem pw7_110 : (Jvm.Cond.methodLink "SkyMarginsModel" (208 : Nat) ({ cls := "SkyMarginsModel", name := "readTest", desc := "(I)V" } : Jvm.MethodName)) ∈ pg_W := tb_7 (i := 110) rfl rfl
theorem pw7_112 : (Jvm.Cond.instanceMethod ({ cls := "SkyMarginsModel", name := "readTest", desc := "(I)V" } : Jvm.MethodName)) ∈ pg_W := tb_7 (i := 112) rfl rfl
theorem pw7_113 : (Jvm.Cond.code ({ cls := "SkyMarginsModel", name := "readTest", desc := "(I)V" } : Jvm.MethodName) prog_14_method_47_code (2 : Nat) (Option.none : Option Jvm.ClassFile.FieldType)) ∈ pg_W := tb_7 (i := 113) rfl rfl
theorem pw7_114 : (Jvm.Cond.methodLink "SkyMarginsModel" (211 : Nat) ({ cls := "SkyMarginsModel", name := "readBoth", desc := "(I)V" } : Jvm.MethodName)) ∈ pg_W := tb_7 (i := 114) rfl rfl
theorem pw7_116 : (Jvm.Cond.instanceMethod ({ cls := "SkyMarginsModel", name := "readBoth", desc := "(I)V" } : Jvm.MethodName)) ∈ pg_W := tb_7 (i := 116) rfl rfl
theorem pw7_117 : (Jvm.Cond.code ({ cls := "SkyMarginsModel", name := "readBoth", desc := "(I)V" } : Jvm.MethodName) prog_14_method_48_code (2 : Nat) (Option.none : Option Jvm.ClassFile.FieldType)) ∈ pg_W := tb_7 (i := 117) rfl rfl
theorem pw7_118 : (Jvm.Cond.methodLink "SkyMarginsModel" (214 : Nat) ({ cls := "SkyMarginsModel", name := "readPlain", desc := "(I)V" } : Jvm.MethodName)) ∈ pg_W := tb_7 (i := 118) rfl rfl
theorem pw7_120 : (Jvm.Cond.instanceMethod ({ cls := "SkyMarginsModel", name := "readPlain", desc := "(I)V" } : Jvm.MethodName)) ∈ pg_W := tb_7 (i := 120) rfl rfl
theorem pw7_121 : (Jvm.Cond.code ({ cls := "SkyMarginsModel", name := "readPlain", desc := "(I)V" } : Jvm.MethodName) prog_14_method_49_code (4 : Nat) (Option.none : Option Jvm.ClassFile.FieldType)) ∈ pg_W := tb_7 (i := 121) rfl rfl
theorem pw7_122 : (Jvm.Cond.methodLink "SkyMarginsLaw" (78 : Nat) ({ cls := "SkyMarginsModel", name := "fault", desc := "()I" } : Jvm.MethodName)) ∈ pg_W := tb_7 (i := 122) rfl rfl
theorem pw7_123 : (Jvm.Cond.instanceMethod ({ cls := "SkyMarginsModel", name := "fault", desc := "()I" } : Jvm.MethodName)) ∈ pg_W := tb_7 (i := 123) rfl rfl
theorem pw7_124 : (Jvm.Cond.selects "SkyMarginsModel" ({ cls := "SkyMarginsModel", name := "fault", desc := "()I" } : Jvm.MethodName) ({ cls := "SkyMarginsModel", name := "fault", desc := "()I" } : Jvm.MethodName)) ∈ pg_W := tb_7 (i := 124) rfl rfl
theorem pw7_125 : (Jvm.Cond.code ({ cls := "SkyMarginsModel", name := "fault", desc := "()I" } : Jvm.MethodName) prog_14_method_55_code (1 : Nat) (Option.some Jvm.ClassFile.FieldType.int)) ∈ pg_W := tb_7 (i := 125) rfl rfl
theorem pw7_126 : (Jvm.Cond.methodLink "SkyMarginsLaw" (82 : Nat) ({ cls := "SkyMarginsModel", name := "use", desc := "(I)I" } : Jvm.MethodName)) ∈ pg_W := tb_7 (i := 126) rfl rfl
theorem pw7_127 : (Jvm.Cond.instanceMethod ({ cls := "SkyMarginsModel", name := "use", desc := "(I)I" } : Jvm.MethodName)) ∈ pg_W := tb_7 (i := 127) rfl rfl
theorem pw7_128 : (Jvm.Cond.selects "SkyMarginsModel" ({ cls := "SkyMarginsModel", name := "use", desc := "(I)I" } : Jvm.MethodName) ({ cls := "SkyMarginsModel", name := "use", desc := "(I)I" } : Jvm.MethodName)) ∈ pg_W := tb_7 (i := 128) rfl rfl
theorem pw7_129 : (Jvm.Cond.code ({ cls := "SkyMarginsModel", name := "use", desc := "(I)I" } : Jvm.MethodName) prog_14_method_56_code (2 : Nat) (Option.some Jvm.ClassFile.FieldType.int)) ∈ pg_W := tb_7 (i := 129) rfl rfl
theorem pw7_130 : (Jvm.Cond.methodLink "SkyMarginsModel" (239 : Nat) ({ cls := "SkyMarginsModel", name := "isText", desc := "(I)Z" } : Jvm.MethodName)) ∈ pg_W := tb_7 (i := 130) rfl rfl
theorem pw7_132 : (Jvm.Cond.instanceMethod ({ cls := "SkyMarginsModel", name := "isText", desc := "(I)Z" } : Jvm.MethodName)) ∈ pg_W := tb_7 (i := 132) rfl rfl
theorem pw7_133 : (Jvm.Cond.code ({ cls := "SkyMarginsModel", name := "isText", desc := "(I)Z" } : Jvm.MethodName) prog_14_method_11_code (2 : Nat) (Option.some Jvm.ClassFile.FieldType.boolean)) ∈ pg_W := tb_7 (i := 133) rfl rfl
theorem pw7_134 : (Jvm.Cond.methodLink "SkyMarginsLaw" (86 : Nat) ({ cls := "SkyMarginsModel", name := "weight", desc := "(II)I" } : Jvm.MethodName)) ∈ pg_W := tb_7 (i := 134) rfl rfl
theorem pw7_135 : (Jvm.Cond.instanceMethod ({ cls := "SkyMarginsModel", name := "weight", desc := "(II)I" } : Jvm.MethodName)) ∈ pg_W := tb_7 (i := 135) rfl rfl
theorem pw7_136 : (Jvm.Cond.selects "SkyMarginsModel" ({ cls := "SkyMarginsModel", name := "weight", desc := "(II)I" } : Jvm.MethodName) ({ cls := "SkyMarginsModel", name := "weight", desc := "(II)I" } : Jvm.MethodName)) ∈ pg_W := tb_7 (i := 136) rfl rfl
theorem pw7_137 : (Jvm.Cond.code ({ cls := "SkyMarginsModel", name := "weight", desc := "(II)I" } : Jvm.MethodName) prog_14_method_72_code (3 : Nat) (Option.some Jvm.ClassFile.FieldType.int)) ∈ pg_W := tb_7 (i := 137) rfl rfl
theorem pw7_138 : (Jvm.Cond.methodLink "SkyMarginsModel" (308 : Nat) ({ cls := "SkyMarginsModel", name := "weightOf", desc := "(II)I" } : Jvm.MethodName)) ∈ pg_W := tb_7 (i := 138) rfl rfl
theorem pw7_140 : (Jvm.Cond.instanceMethod ({ cls := "SkyMarginsModel", name := "weightOf", desc := "(II)I" } : Jvm.MethodName)) ∈ pg_W := tb_7 (i := 140) rfl rfl
theorem pw7_141 : (Jvm.Cond.code ({ cls := "SkyMarginsModel", name := "weightOf", desc := "(II)I" } : Jvm.MethodName) prog_14_method_71_code (3 : Nat) (Option.some Jvm.ClassFile.FieldType.int)) ∈ pg_W := tb_7 (i := 141) rfl rfl
theorem pw7_142 : (Jvm.Cond.methodLink "SkyMarginsModel" (296 : Nat) ({ cls := "SkyMarginsModel", name := "bare", desc := "()V" } : Jvm.MethodName)) ∈ pg_W := tb_7 (i := 142) rfl rfl
theorem pw7_144 : (Jvm.Cond.instanceMethod ({ cls := "SkyMarginsModel", name := "bare", desc := "()V" } : Jvm.MethodName)) ∈ pg_W := tb_7 (i := 144) rfl rfl
theorem pw7_145 : (Jvm.Cond.code ({ cls := "SkyMarginsModel", name := "bare", desc := "()V" } : Jvm.MethodName) prog_14_method_68_code (2 : Nat) (Option.none : Option Jvm.ClassFile.FieldType)) ∈ pg_W := tb_7 (i := 145) rfl rfl
theorem pw7_146 : (Jvm.Cond.methodLink "SkyMarginsModel" (302 : Nat) ({ cls := "SkyMarginsModel", name := "asks", desc := "(II)V" } : Jvm.MethodName)) ∈ pg_W := tb_7 (i := 146) rfl rfl
theorem pw7_148 : (Jvm.Cond.instanceMethod ({ cls := "SkyMarginsModel", name := "asks", desc := "(II)V" } : Jvm.MethodName)) ∈ pg_W := tb_7 (i := 148) rfl rfl
theorem pw7_149 : (Jvm.Cond.code ({ cls := "SkyMarginsModel", name := "asks", desc := "(II)V" } : Jvm.MethodName) prog_14_method_67_code (8 : Nat) (Option.none : Option Jvm.ClassFile.FieldType)) ∈ pg_W := tb_7 (i := 149) rfl rfl
theorem pw7_150 : (Jvm.Cond.methodLink "SkyMarginsModel" (248 : Nat) ({ cls := "SkyMarginsModel", name := "codeAt", desc := "(I)I" } : Jvm.MethodName)) ∈ pg_W := tb_7 (i := 150) rfl rfl
theorem pw7_152 : (Jvm.Cond.instanceMethod ({ cls := "SkyMarginsModel", name := "codeAt", desc := "(I)I" } : Jvm.MethodName)) ∈ pg_W := tb_7 (i := 152) rfl rfl
theorem pw7_153 : (Jvm.Cond.code ({ cls := "SkyMarginsModel", name := "codeAt", desc := "(I)I" } : Jvm.MethodName) prog_14_method_57_code (2 : Nat) (Option.some Jvm.ClassFile.FieldType.int)) ∈ pg_W := tb_7 (i := 153) rfl rfl
theorem pw7_154 : (Jvm.Cond.methodLink "SkyMarginsModel" (273 : Nat) ({ cls := "SkyMarginsModel", name := "sumOf", desc := "(Z)J" } : Jvm.MethodName)) ∈ pg_W := tb_7 (i := 154) rfl rfl
theorem pw7_156 : (Jvm.Cond.instanceMethod ({ cls := "SkyMarginsModel", name := "sumOf", desc := "(Z)J" } : Jvm.MethodName)) ∈ pg_W := tb_7 (i := 156) rfl rfl
theorem pw7_157 : (Jvm.Cond.code ({ cls := "SkyMarginsModel", name := "sumOf", desc := "(Z)J" } : Jvm.MethodName) prog_14_method_60_code (7 : Nat) (Option.some Jvm.ClassFile.FieldType.long)) ∈ pg_W := tb_7 (i := 157) rfl rfl
theorem pw7_158 : (Jvm.Cond.methodLink "SkyMarginsModel" (259 : Nat) ({ cls := "SkyMarginsModel", name := "termOf", desc := "(Z)J" } : Jvm.MethodName)) ∈ pg_W := tb_7 (i := 158) rfl rfl
theorem pw7_160 : (Jvm.Cond.instanceMethod ({ cls := "SkyMarginsModel", name := "termOf", desc := "(Z)J" } : Jvm.MethodName)) ∈ pg_W := tb_7 (i := 160) rfl rfl
theorem pw7_161 : (Jvm.Cond.code ({ cls := "SkyMarginsModel", name := "termOf", desc := "(Z)J" } : Jvm.MethodName) prog_14_method_61_code (7 : Nat) (Option.some Jvm.ClassFile.FieldType.long)) ∈ pg_W := tb_7 (i := 161) rfl rfl
theorem pw7_162 : (Jvm.Cond.methodLink "SkyMarginsModel" (267 : Nat) ({ cls := "SkyMarginsModel", name := "partOf", desc := "(Z)J" } : Jvm.MethodName)) ∈ pg_W := tb_7 (i := 162) rfl rfl
theorem pw7_164 : (Jvm.Cond.instanceMethod ({ cls := "SkyMarginsModel", name := "partOf", desc := "(Z)J" } : Jvm.MethodName)) ∈ pg_W := tb_7 (i := 164) rfl rfl
theorem pw7_165 : (Jvm.Cond.code ({ cls := "SkyMarginsModel", name := "partOf", desc := "(Z)J" } : Jvm.MethodName) prog_14_method_62_code (4 : Nat) (Option.some Jvm.ClassFile.FieldType.long)) ∈ pg_W := tb_7 (i := 165) rfl rfl
theorem pw7_166 : (Jvm.Cond.methodLink "SkyMarginsModel" (270 : Nat) ({ cls := "SkyMarginsModel", name := "passes", desc := "(I)Z" } : Jvm.MethodName)) ∈ pg_W := tb_7 (i := 166) rfl rfl
theorem pw7_168 : (Jvm.Cond.instanceMethod ({ cls := "SkyMarginsModel", name := "passes", desc := "(I)Z" } : Jvm.MethodName)) ∈ pg_W := tb_7 (i := 168) rfl rfl
theorem pw7_169 : (Jvm.Cond.code ({ cls := "SkyMarginsModel", name := "passes", desc := "(I)Z" } : Jvm.MethodName) prog_14_method_58_code (3 : Nat) (Option.some Jvm.ClassFile.FieldType.boolean)) ∈ pg_W := tb_7 (i := 169) rfl rfl
theorem pw7_170 : (Jvm.Cond.methodLink "SkyMarginsModel" (263 : Nat) ({ cls := "SkyMarginsModel", name := "bounded", desc := "(JZ)J" } : Jvm.MethodName)) ∈ pg_W := tb_7 (i := 170) rfl rfl
theorem pw7_172 : (Jvm.Cond.instanceMethod ({ cls := "SkyMarginsModel", name := "bounded", desc := "(JZ)J" } : Jvm.MethodName)) ∈ pg_W := tb_7 (i := 172) rfl rfl
theorem pw7_173 : (Jvm.Cond.code ({ cls := "SkyMarginsModel", name := "bounded", desc := "(JZ)J" } : Jvm.MethodName) prog_14_method_59_code (4 : Nat) (Option.some Jvm.ClassFile.FieldType.long)) ∈ pg_W := tb_7 (i := 173) rfl rfl
theorem pw7_174 : (Jvm.Cond.constantLong "SkyMarginsModel" (251 : Nat) (1000000000 : Int64)) ∈ pg_W := tb_7 (i := 174) rfl rfl
theorem pw7_175 : (Jvm.Cond.constantLong "SkyMarginsModel" (253 : Nat) (-1000000000 : Int64)) ∈ pg_W := tb_7 (i := 175) rfl rfl
theorem pw7_176 : (Jvm.Cond.methodLink "SkyMarginsModel" (286 : Nat) ({ cls := "SkyMarginsModel", name := "testOf", desc := "(Z)Z" } : Jvm.MethodName)) ∈ pg_W := tb_7 (i := 176) rfl rfl
theorem pw7_178 : (Jvm.Cond.instanceMethod ({ cls := "SkyMarginsModel", name := "testOf", desc := "(Z)Z" } : Jvm.MethodName)) ∈ pg_W := tb_7 (i := 178) rfl rfl
theorem pw7_179 : (Jvm.Cond.code ({ cls := "SkyMarginsModel", name := "testOf", desc := "(Z)Z" } : Jvm.MethodName) prog_14_method_63_code (4 : Nat) (Option.some Jvm.ClassFile.FieldType.boolean)) ∈ pg_W := tb_7 (i := 179) rfl rfl
theorem pw7_180 : (Jvm.Cond.methodLink "SkyMarginsModel" (276 : Nat) ({ cls := "SkyMarginsModel", name := "bothOf", desc := "(Z)Z" } : Jvm.MethodName)) ∈ pg_W := tb_7 (i := 180) rfl rfl
theorem pw7_182 : (Jvm.Cond.instanceMethod ({ cls := "SkyMarginsModel", name := "bothOf", desc := "(Z)Z" } : Jvm.MethodName)) ∈ pg_W := tb_7 (i := 182) rfl rfl
theorem pw7_183 : (Jvm.Cond.code ({ cls := "SkyMarginsModel", name := "bothOf", desc := "(Z)Z" } : Jvm.MethodName) prog_14_method_64_code (4 : Nat) (Option.some Jvm.ClassFile.FieldType.boolean)) ∈ pg_W := tb_7 (i := 183) rfl rfl
theorem pw7_184 : (Jvm.Cond.methodLink "SkyMarginsModel" (280 : Nat) ({ cls := "SkyMarginsModel", name := "plainOf", desc := "(Z)Z" } : Jvm.MethodName)) ∈ pg_W := tb_7 (i := 184) rfl rfl
theorem pw7_186 : (Jvm.Cond.instanceMethod ({ cls := "SkyMarginsModel", name := "plainOf", desc := "(Z)Z" } : Jvm.MethodName)) ∈ pg_W := tb_7 (i := 186) rfl rfl
theorem pw7_187 : (Jvm.Cond.code ({ cls := "SkyMarginsModel", name := "plainOf", desc := "(Z)Z" } : Jvm.MethodName) prog_14_method_65_code (3 : Nat) (Option.some Jvm.ClassFile.FieldType.boolean)) ∈ pg_W := tb_7 (i := 187) rfl rfl
theorem pw7_188 : (Jvm.Cond.methodLink "SkyMarginsModel" (283 : Nat) ({ cls := "SkyMarginsModel", name := "positiveOf", desc := "(Z)Z" } : Jvm.MethodName)) ∈ pg_W := tb_7 (i := 188) rfl rfl
theorem pw7_190 : (Jvm.Cond.instanceMethod ({ cls := "SkyMarginsModel", name := "positiveOf", desc := "(Z)Z" } : Jvm.MethodName)) ∈ pg_W := tb_7 (i := 190) rfl rfl
theorem pw7_191 : (Jvm.Cond.code ({ cls := "SkyMarginsModel", name := "positiveOf", desc := "(Z)Z" } : Jvm.MethodName) prog_14_method_66_code (7 : Nat) (Option.some Jvm.ClassFile.FieldType.boolean)) ∈ pg_W := tb_7 (i := 191) rfl rfl
theorem pw7_192 : (Jvm.Cond.constantLong "SkyMarginsModel" (306 : Nat) (100 : Int64)) ∈ pg_W := tb_7 (i := 192) rfl rfl
theorem pw7_193 : (Jvm.Cond.methodLink "SkyMarginsLaw" (90 : Nat) ({ cls := "SkyMarginsModel", name := "may", desc := "(II)I" } : Jvm.MethodName)) ∈ pg_W := tb_7 (i := 193) rfl rfl
theorem pw7_194 : (Jvm.Cond.instanceMethod ({ cls := "SkyMarginsModel", name := "may", desc := "(II)I" } : Jvm.MethodName)) ∈ pg_W := tb_7 (i := 194) rfl rfl
theorem pw7_195 : (Jvm.Cond.selects "SkyMarginsModel" ({ cls := "SkyMarginsModel", name := "may", desc := "(II)I" } : Jvm.MethodName) ({ cls := "SkyMarginsModel", name := "may", desc := "(II)I" } : Jvm.MethodName)) ∈ pg_W := tb_7 (i := 195) rfl rfl
theorem pw7_196 : (Jvm.Cond.code ({ cls := "SkyMarginsModel", name := "may", desc := "(II)I" } : Jvm.MethodName) prog_14_method_75_code (3 : Nat) (Option.some Jvm.ClassFile.FieldType.int)) ∈ pg_W := tb_7 (i := 196) rfl rfl
theorem pw7_197 : (Jvm.Cond.methodLink "SkyMarginsModel" (317 : Nat) ({ cls := "SkyMarginsModel", name := "canMeet", desc := "(II)Z" } : Jvm.MethodName)) ∈ pg_W := tb_7 (i := 197) rfl rfl
theorem pw7_199 : (Jvm.Cond.instanceMethod ({ cls := "SkyMarginsModel", name := "canMeet", desc := "(II)Z" } : Jvm.MethodName)) ∈ pg_W := tb_7 (i := 199) rfl rfl
theorem pw7_200 : (Jvm.Cond.code ({ cls := "SkyMarginsModel", name := "canMeet", desc := "(II)Z" } : Jvm.MethodName) prog_14_method_74_code (5 : Nat) (Option.some Jvm.ClassFile.FieldType.boolean)) ∈ pg_W := tb_7 (i := 200) rfl rfl
theorem pw7_201 : (Jvm.Cond.methodLink "SkyMarginsModel" (314 : Nat) ({ cls := "SkyMarginsModel", name := "hasStays", desc := "(I)Z" } : Jvm.MethodName)) ∈ pg_W := tb_7 (i := 201) rfl rfl
theorem pw7_203 : (Jvm.Cond.instanceMethod ({ cls := "SkyMarginsModel", name := "hasStays", desc := "(I)Z" } : Jvm.MethodName)) ∈ pg_W := tb_7 (i := 203) rfl rfl
theorem pw7_204 : (Jvm.Cond.code ({ cls := "SkyMarginsModel", name := "hasStays", desc := "(I)Z" } : Jvm.MethodName) prog_14_method_73_code (3 : Nat) (Option.some Jvm.ClassFile.FieldType.boolean)) ∈ pg_W := tb_7 (i := 204) rfl rfl
theorem pw7_205 : (Jvm.Cond.methodLink "SkyMarginsModel" (311 : Nat) ({ cls := "SkyMarginsModel", name := "stayOf", desc := "(II)I" } : Jvm.MethodName)) ∈ pg_W := tb_7 (i := 205) rfl rfl
theorem pw7_207 : (Jvm.Cond.instanceMethod ({ cls := "SkyMarginsModel", name := "stayOf", desc := "(II)I" } : Jvm.MethodName)) ∈ pg_W := tb_7 (i := 207) rfl rfl
theorem pw7_208 : (Jvm.Cond.code ({ cls := "SkyMarginsModel", name := "stayOf", desc := "(II)I" } : Jvm.MethodName) prog_14_method_13_code (3 : Nat) (Option.some Jvm.ClassFile.FieldType.int)) ∈ pg_W := tb_7 (i := 208) rfl rfl
theorem pw7_209 : (Jvm.Cond.methodLink "SkyMarginsLaw" (94 : Nat) ({ cls := "SkyMarginsModel", name := "cost", desc := "(II)I" } : Jvm.MethodName)) ∈ pg_W := tb_7 (i := 209) rfl rfl
theorem pw7_210 : (Jvm.Cond.instanceMethod ({ cls := "SkyMarginsModel", name := "cost", desc := "(II)I" } : Jvm.MethodName)) ∈ pg_W := tb_7 (i := 210) rfl rfl
theorem pw7_211 : (Jvm.Cond.selects "SkyMarginsModel" ({ cls := "SkyMarginsModel", name := "cost", desc := "(II)I" } : Jvm.MethodName) ({ cls := "SkyMarginsModel", name := "cost", desc := "(II)I" } : Jvm.MethodName)) ∈ pg_W := tb_7 (i := 211) rfl rfl
theorem pw7_212 : (Jvm.Cond.code ({ cls := "SkyMarginsModel", name := "cost", desc := "(II)I" } : Jvm.MethodName) prog_14_method_79_code (3 : Nat) (Option.some Jvm.ClassFile.FieldType.int)) ∈ pg_W := tb_7 (i := 212) rfl rfl
theorem pw7_213 : (Jvm.Cond.methodLink "SkyMarginsModel" (323 : Nat) ({ cls := "SkyMarginsModel", name := "weighs", desc := "()V" } : Jvm.MethodName)) ∈ pg_W := tb_7 (i := 213) rfl rfl
theorem pw7_215 : (Jvm.Cond.instanceMethod ({ cls := "SkyMarginsModel", name := "weighs", desc := "()V" } : Jvm.MethodName)) ∈ pg_W := tb_7 (i := 215) rfl rfl
theorem pw7_216 : (Jvm.Cond.code ({ cls := "SkyMarginsModel", name := "weighs", desc := "()V" } : Jvm.MethodName) prog_14_method_76_code (2 : Nat) (Option.none : Option Jvm.ClassFile.FieldType)) ∈ pg_W := tb_7 (i := 216) rfl rfl
theorem pw7_217 : (Jvm.Cond.methodLink "SkyMarginsModel" (326 : Nat) ({ cls := "SkyMarginsModel", name := "costAlone", desc := "(I)I" } : Jvm.MethodName)) ∈ pg_W := tb_7 (i := 217) rfl rfl
theorem pw7_219 : (Jvm.Cond.instanceMethod ({ cls := "SkyMarginsModel", name := "costAlone", desc := "(I)I" } : Jvm.MethodName)) ∈ pg_W := tb_7 (i := 219) rfl rfl
theorem pw7_220 : (Jvm.Cond.code ({ cls := "SkyMarginsModel", name := "costAlone", desc := "(I)I" } : Jvm.MethodName) prog_14_method_78_code (4 : Nat) (Option.some Jvm.ClassFile.FieldType.int)) ∈ pg_W := tb_7 (i := 220) rfl rfl
theorem pw7_221 : (Jvm.Cond.methodLink "SkyMarginsModel" (320 : Nat) ({ cls := "SkyMarginsModel", name := "term", desc := "(I)I" } : Jvm.MethodName)) ∈ pg_W := tb_7 (i := 221) rfl rfl
theorem pw7_223 : (Jvm.Cond.instanceMethod ({ cls := "SkyMarginsModel", name := "term", desc := "(I)I" } : Jvm.MethodName)) ∈ pg_W := tb_7 (i := 223) rfl rfl
theorem pw7_224 : (Jvm.Cond.code ({ cls := "SkyMarginsModel", name := "term", desc := "(I)I" } : Jvm.MethodName) prog_14_method_7_code (2 : Nat) (Option.some Jvm.ClassFile.FieldType.int)) ∈ pg_W := tb_7 (i := 224) rfl rfl
theorem pw7_225 : (Jvm.Cond.methodLink "SkyMarginsModel" (329 : Nat) ({ cls := "SkyMarginsModel", name := "costFrom", desc := "(III)I" } : Jvm.MethodName)) ∈ pg_W := tb_7 (i := 225) rfl rfl
theorem pw7_227 : (Jvm.Cond.instanceMethod ({ cls := "SkyMarginsModel", name := "costFrom", desc := "(III)I" } : Jvm.MethodName)) ∈ pg_W := tb_7 (i := 227) rfl rfl
theorem pw7_228 : (Jvm.Cond.code ({ cls := "SkyMarginsModel", name := "costFrom", desc := "(III)I" } : Jvm.MethodName) prog_14_method_77_code (11 : Nat) (Option.some Jvm.ClassFile.FieldType.int)) ∈ pg_W := tb_7 (i := 228) rfl rfl
theorem pw7_229 : (Jvm.Cond.methodLink "SkyMarginsLaw" (98 : Nat) ({ cls := "SkyMarginsModel", name := "tree", desc := "()I" } : Jvm.MethodName)) ∈ pg_W := tb_7 (i := 229) rfl rfl
theorem pw7_230 : (Jvm.Cond.instanceMethod ({ cls := "SkyMarginsModel", name := "tree", desc := "()I" } : Jvm.MethodName)) ∈ pg_W := tb_7 (i := 230) rfl rfl
theorem pw7_231 : (Jvm.Cond.selects "SkyMarginsModel" ({ cls := "SkyMarginsModel", name := "tree", desc := "()I" } : Jvm.MethodName) ({ cls := "SkyMarginsModel", name := "tree", desc := "()I" } : Jvm.MethodName)) ∈ pg_W := tb_7 (i := 231) rfl rfl
theorem pw7_232 : (Jvm.Cond.code ({ cls := "SkyMarginsModel", name := "tree", desc := "()I" } : Jvm.MethodName) prog_14_method_84_code (1 : Nat) (Option.some Jvm.ClassFile.FieldType.int)) ∈ pg_W := tb_7 (i := 232) rfl rfl
theorem pw7_233 : (Jvm.Cond.methodLink "SkyMarginsModel" (337 : Nat) ({ cls := "SkyMarginsModel", name := "laysCosts", desc := "()V" } : Jvm.MethodName)) ∈ pg_W := tb_7 (i := 233) rfl rfl
theorem pw7_235 : (Jvm.Cond.instanceMethod ({ cls := "SkyMarginsModel", name := "laysCosts", desc := "()V" } : Jvm.MethodName)) ∈ pg_W := tb_7 (i := 235) rfl rfl
theorem pw7_236 : (Jvm.Cond.code ({ cls := "SkyMarginsModel", name := "laysCosts", desc := "()V" } : Jvm.MethodName) prog_14_method_80_code (3 : Nat) (Option.none : Option Jvm.ClassFile.FieldType)) ∈ pg_W := tb_7 (i := 236) rfl rfl
theorem pw7_237 : (Jvm.Cond.methodLink "SkyMarginsModel" (340 : Nat) ({ cls := "SkyMarginsModel", name := "cheapest", desc := "()I" } : Jvm.MethodName)) ∈ pg_W := tb_7 (i := 237) rfl rfl
theorem pw7_239 : (Jvm.Cond.instanceMethod ({ cls := "SkyMarginsModel", name := "cheapest", desc := "()I" } : Jvm.MethodName)) ∈ pg_W := tb_7 (i := 239) rfl rfl
theorem pw8_0 : (Jvm.Cond.code ({ cls := "SkyMarginsModel", name := "cheapest", desc := "()I" } : Jvm.MethodName) prog_14_method_81_code (5 : Nat) (Option.some Jvm.ClassFile.FieldType.int)) ∈ pg_W := tb_8 (i := 0) rfl rfl
theorem pw8_1 : (Jvm.Cond.constant "SkyMarginsModel" (333 : Nat) (1000000000 : Int32)) ∈ pg_W := tb_8 (i := 1) rfl rfl
theorem pw8_2 : (Jvm.Cond.methodLink "SkyMarginsModel" (334 : Nat) ({ cls := "SkyMarginsModel", name := "cheapestOf", desc := "(II)I" } : Jvm.MethodName)) ∈ pg_W := tb_8 (i := 2) rfl rfl
theorem pw8_4 : (Jvm.Cond.instanceMethod ({ cls := "SkyMarginsModel", name := "cheapestOf", desc := "(II)I" } : Jvm.MethodName)) ∈ pg_W := tb_8 (i := 4) rfl rfl
theorem pw8_5 : (Jvm.Cond.code ({ cls := "SkyMarginsModel", name := "cheapestOf", desc := "(II)I" } : Jvm.MethodName) prog_14_method_82_code (5 : Nat) (Option.some Jvm.ClassFile.FieldType.int)) ∈ pg_W := tb_8 (i := 5) rfl rfl
theorem pw8_6 : (Jvm.Cond.methodLink "SkyMarginsLaw" (102 : Nat) ({ cls := "SkyMarginsModel", name := "whose", desc := "(I)I" } : Jvm.MethodName)) ∈ pg_W := tb_8 (i := 6) rfl rfl
theorem pw8_7 : (Jvm.Cond.instanceMethod ({ cls := "SkyMarginsModel", name := "whose", desc := "(I)I" } : Jvm.MethodName)) ∈ pg_W := tb_8 (i := 7) rfl rfl
theorem pw8_8 : (Jvm.Cond.selects "SkyMarginsModel" ({ cls := "SkyMarginsModel", name := "whose", desc := "(I)I" } : Jvm.MethodName) ({ cls := "SkyMarginsModel", name := "whose", desc := "(I)I" } : Jvm.MethodName)) ∈ pg_W := tb_8 (i := 8) rfl rfl
theorem pw8_9 : (Jvm.Cond.code ({ cls := "SkyMarginsModel", name := "whose", desc := "(I)I" } : Jvm.MethodName) prog_14_method_85_code (2 : Nat) (Option.some Jvm.ClassFile.FieldType.int)) ∈ pg_W := tb_8 (i := 9) rfl rfl
theorem pw8_10 : (Jvm.Cond.methodLink "SkyMarginsModel" (346 : Nat) ({ cls := "SkyMarginsModel", name := "grows", desc := "()V" } : Jvm.MethodName)) ∈ pg_W := tb_8 (i := 10) rfl rfl
theorem pw8_12 : (Jvm.Cond.instanceMethod ({ cls := "SkyMarginsModel", name := "grows", desc := "()V" } : Jvm.MethodName)) ∈ pg_W := tb_8 (i := 12) rfl rfl
theorem pw8_13 : (Jvm.Cond.code ({ cls := "SkyMarginsModel", name := "grows", desc := "()V" } : Jvm.MethodName) prog_14_method_83_code (6 : Nat) (Option.none : Option Jvm.ClassFile.FieldType)) ∈ pg_W := tb_8 (i := 13) rfl rfl
theorem pw8_14 : (Jvm.Cond.methodLink "SkyMarginsLaw" (106 : Nat) ({ cls := "SkyMarginsModel", name := "sure", desc := "(I)I" } : Jvm.MethodName)) ∈ pg_W := tb_8 (i := 14) rfl rfl
theorem pw8_15 : (Jvm.Cond.instanceMethod ({ cls := "SkyMarginsModel", name := "sure", desc := "(I)I" } : Jvm.MethodName)) ∈ pg_W := tb_8 (i := 15) rfl rfl
theorem pw8_16 : (Jvm.Cond.selects "SkyMarginsModel" ({ cls := "SkyMarginsModel", name := "sure", desc := "(I)I" } : Jvm.MethodName) ({ cls := "SkyMarginsModel", name := "sure", desc := "(I)I" } : Jvm.MethodName)) ∈ pg_W := tb_8 (i := 16) rfl rfl
theorem pw8_17 : (Jvm.Cond.code ({ cls := "SkyMarginsModel", name := "sure", desc := "(I)I" } : Jvm.MethodName) prog_14_method_86_code (2 : Nat) (Option.some Jvm.ClassFile.FieldType.int)) ∈ pg_W := tb_8 (i := 17) rfl rfl
theorem pw8_18 : (Jvm.Cond.methodLink "SkyMarginsLaw" (110 : Nat) ({ cls := "SkyMarginsModel", name := "come", desc := "(II)I" } : Jvm.MethodName)) ∈ pg_W := tb_8 (i := 18) rfl rfl
theorem pw8_19 : (Jvm.Cond.instanceMethod ({ cls := "SkyMarginsModel", name := "come", desc := "(II)I" } : Jvm.MethodName)) ∈ pg_W := tb_8 (i := 19) rfl rfl
theorem pw8_20 : (Jvm.Cond.selects "SkyMarginsModel" ({ cls := "SkyMarginsModel", name := "come", desc := "(II)I" } : Jvm.MethodName) ({ cls := "SkyMarginsModel", name := "come", desc := "(II)I" } : Jvm.MethodName)) ∈ pg_W := tb_8 (i := 20) rfl rfl
theorem pw8_21 : (Jvm.Cond.code ({ cls := "SkyMarginsModel", name := "come", desc := "(II)I" } : Jvm.MethodName) prog_14_method_89_code (5 : Nat) (Option.some Jvm.ClassFile.FieldType.int)) ∈ pg_W := tb_8 (i := 21) rfl rfl
theorem pw8_22 : (Jvm.Cond.methodLink "SkyMarginsModel" (349 : Nat) ({ cls := "SkyMarginsModel", name := "stepsOf", desc := "(I)I" } : Jvm.MethodName)) ∈ pg_W := tb_8 (i := 22) rfl rfl
theorem pw8_24 : (Jvm.Cond.instanceMethod ({ cls := "SkyMarginsModel", name := "stepsOf", desc := "(I)I" } : Jvm.MethodName)) ∈ pg_W := tb_8 (i := 24) rfl rfl
theorem pw8_25 : (Jvm.Cond.code ({ cls := "SkyMarginsModel", name := "stepsOf", desc := "(I)I" } : Jvm.MethodName) prog_14_method_87_code (4 : Nat) (Option.some Jvm.ClassFile.FieldType.int)) ∈ pg_W := tb_8 (i := 25) rfl rfl
theorem pw8_26 : (Jvm.Cond.methodLink "SkyMarginsModel" (352 : Nat) ({ cls := "SkyMarginsModel", name := "comesOf", desc := "(II)Z" } : Jvm.MethodName)) ∈ pg_W := tb_8 (i := 26) rfl rfl
theorem pw8_28 : (Jvm.Cond.instanceMethod ({ cls := "SkyMarginsModel", name := "comesOf", desc := "(II)Z" } : Jvm.MethodName)) ∈ pg_W := tb_8 (i := 28) rfl rfl
theorem pw8_29 : (Jvm.Cond.code ({ cls := "SkyMarginsModel", name := "comesOf", desc := "(II)Z" } : Jvm.MethodName) prog_14_method_88_code (5 : Nat) (Option.some Jvm.ClassFile.FieldType.boolean)) ∈ pg_W := tb_8 (i := 29) rfl rfl
theorem pw8_30 : (Jvm.Cond.methodLink "SkyMarginsLaw" (114 : Nat) ({ cls := "SkyMarginsModel", name := "net", desc := "(II)I" } : Jvm.MethodName)) ∈ pg_W := tb_8 (i := 30) rfl rfl
theorem pw8_31 : (Jvm.Cond.instanceMethod ({ cls := "SkyMarginsModel", name := "net", desc := "(II)I" } : Jvm.MethodName)) ∈ pg_W := tb_8 (i := 31) rfl rfl
theorem pw8_32 : (Jvm.Cond.selects "SkyMarginsModel" ({ cls := "SkyMarginsModel", name := "net", desc := "(II)I" } : Jvm.MethodName) ({ cls := "SkyMarginsModel", name := "net", desc := "(II)I" } : Jvm.MethodName)) ∈ pg_W := tb_8 (i := 32) rfl rfl
theorem pw8_33 : (Jvm.Cond.code ({ cls := "SkyMarginsModel", name := "net", desc := "(II)I" } : Jvm.MethodName) prog_14_method_90_code (9 : Nat) (Option.some Jvm.ClassFile.FieldType.int)) ∈ pg_W := tb_8 (i := 33) rfl rfl
theorem pw8_34 : (Jvm.Cond.constant "SkyMarginsModel" (355 : Nat) (-1000000 : Int32)) ∈ pg_W := tb_8 (i := 34) rfl rfl
theorem pw8_35 : (Jvm.Cond.methodLink "SkyMarginsLaw" (118 : Nat) ({ cls := "SkyMarginsModel", name := "agree", desc := "(II)I" } : Jvm.MethodName)) ∈ pg_W := tb_8 (i := 35) rfl rfl
theorem pw8_36 : (Jvm.Cond.instanceMethod ({ cls := "SkyMarginsModel", name := "agree", desc := "(II)I" } : Jvm.MethodName)) ∈ pg_W := tb_8 (i := 36) rfl rfl
theorem pw8_37 : (Jvm.Cond.selects "SkyMarginsModel" ({ cls := "SkyMarginsModel", name := "agree", desc := "(II)I" } : Jvm.MethodName) ({ cls := "SkyMarginsModel", name := "agree", desc := "(II)I" } : Jvm.MethodName)) ∈ pg_W := tb_8 (i := 37) rfl rfl
theorem pw8_38 : (Jvm.Cond.code ({ cls := "SkyMarginsModel", name := "agree", desc := "(II)I" } : Jvm.MethodName) prog_14_method_92_code (3 : Nat) (Option.some Jvm.ClassFile.FieldType.int)) ∈ pg_W := tb_8 (i := 38) rfl rfl
theorem pw8_39 : (Jvm.Cond.methodLink "SkyMarginsModel" (356 : Nat) ({ cls := "SkyMarginsModel", name := "agreeOf", desc := "(II)I" } : Jvm.MethodName)) ∈ pg_W := tb_8 (i := 39) rfl rfl
theorem pw8_41 : (Jvm.Cond.instanceMethod ({ cls := "SkyMarginsModel", name := "agreeOf", desc := "(II)I" } : Jvm.MethodName)) ∈ pg_W := tb_8 (i := 41) rfl rfl
theorem pw8_42 : (Jvm.Cond.code ({ cls := "SkyMarginsModel", name := "agreeOf", desc := "(II)I" } : Jvm.MethodName) prog_14_method_91_code (5 : Nat) (Option.some Jvm.ClassFile.FieldType.int)) ∈ pg_W := tb_8 (i := 42) rfl rfl
theorem pw8_43 : (Jvm.Cond.methodLink "SkyMarginsLaw" (122 : Nat) ({ cls := "SkyMarginsModel", name := "families", desc := "()I" } : Jvm.MethodName)) ∈ pg_W := tb_8 (i := 43) rfl rfl
theorem pw8_44 : (Jvm.Cond.instanceMethod ({ cls := "SkyMarginsModel", name := "families", desc := "()I" } : Jvm.MethodName)) ∈ pg_W := tb_8 (i := 44) rfl rfl
theorem pw8_45 : (Jvm.Cond.selects "SkyMarginsModel" ({ cls := "SkyMarginsModel", name := "families", desc := "()I" } : Jvm.MethodName) ({ cls := "SkyMarginsModel", name := "families", desc := "()I" } : Jvm.MethodName)) ∈ pg_W := tb_8 (i := 45) rfl rfl
theorem pw8_46 : (Jvm.Cond.code ({ cls := "SkyMarginsModel", name := "families", desc := "()I" } : Jvm.MethodName) prog_14_method_95_code (1 : Nat) (Option.some Jvm.ClassFile.FieldType.int)) ∈ pg_W := tb_8 (i := 46) rfl rfl
theorem pw8_47 : (Jvm.Cond.methodLink "SkyMarginsModel" (359 : Nat) ({ cls := "SkyMarginsModel", name := "joinsAll", desc := "(I)V" } : Jvm.MethodName)) ∈ pg_W := tb_8 (i := 47) rfl rfl
theorem pw8_49 : (Jvm.Cond.instanceMethod ({ cls := "SkyMarginsModel", name := "joinsAll", desc := "(I)V" } : Jvm.MethodName)) ∈ pg_W := tb_8 (i := 49) rfl rfl
theorem pw8_50 : (Jvm.Cond.code ({ cls := "SkyMarginsModel", name := "joinsAll", desc := "(I)V" } : Jvm.MethodName) prog_14_method_93_code (5 : Nat) (Option.none : Option Jvm.ClassFile.FieldType)) ∈ pg_W := tb_8 (i := 50) rfl rfl
theorem pw8_51 : (Jvm.Cond.methodLink "SkyMarginsModel" (362 : Nat) ({ cls := "SkyMarginsModel", name := "familiesBut", desc := "(I)I" } : Jvm.MethodName)) ∈ pg_W := tb_8 (i := 51) rfl rfl
theorem pw8_53 : (Jvm.Cond.instanceMethod ({ cls := "SkyMarginsModel", name := "familiesBut", desc := "(I)I" } : Jvm.MethodName)) ∈ pg_W := tb_8 (i := 53) rfl rfl
theorem pw8_54 : (Jvm.Cond.code ({ cls := "SkyMarginsModel", name := "familiesBut", desc := "(I)I" } : Jvm.MethodName) prog_14_method_94_code (6 : Nat) (Option.some Jvm.ClassFile.FieldType.int)) ∈ pg_W := tb_8 (i := 54) rfl rfl
theorem pw8_55 : (Jvm.Cond.methodLink "SkyMarginsLaw" (126 : Nat) ({ cls := "SkyMarginsModel", name := "family", desc := "(I)I" } : Jvm.MethodName)) ∈ pg_W := tb_8 (i := 55) rfl rfl
theorem pw8_56 : (Jvm.Cond.instanceMethod ({ cls := "SkyMarginsModel", name := "family", desc := "(I)I" } : Jvm.MethodName)) ∈ pg_W := tb_8 (i := 56) rfl rfl
theorem pw8_57 : (Jvm.Cond.selects "SkyMarginsModel" ({ cls := "SkyMarginsModel", name := "family", desc := "(I)I" } : Jvm.MethodName) ({ cls := "SkyMarginsModel", name := "family", desc := "(I)I" } : Jvm.MethodName)) ∈ pg_W := tb_8 (i := 57) rfl rfl
theorem pw8_58 : (Jvm.Cond.code ({ cls := "SkyMarginsModel", name := "family", desc := "(I)I" } : Jvm.MethodName) prog_14_method_96_code (2 : Nat) (Option.some Jvm.ClassFile.FieldType.int)) ∈ pg_W := tb_8 (i := 58) rfl rfl
theorem pw8_59 : (Jvm.Cond.methodLink "SkyMarginsLaw" (130 : Nat) ({ cls := "SkyMarginsModel", name := "joins", desc := "(I)I" } : Jvm.MethodName)) ∈ pg_W := tb_8 (i := 59) rfl rfl
theorem pw8_60 : (Jvm.Cond.instanceMethod ({ cls := "SkyMarginsModel", name := "joins", desc := "(I)I" } : Jvm.MethodName)) ∈ pg_W := tb_8 (i := 60) rfl rfl
theorem pw8_61 : (Jvm.Cond.selects "SkyMarginsModel" ({ cls := "SkyMarginsModel", name := "joins", desc := "(I)I" } : Jvm.MethodName) ({ cls := "SkyMarginsModel", name := "joins", desc := "(I)I" } : Jvm.MethodName)) ∈ pg_W := tb_8 (i := 61) rfl rfl
theorem pw8_62 : (Jvm.Cond.code ({ cls := "SkyMarginsModel", name := "joins", desc := "(I)I" } : Jvm.MethodName) prog_14_method_97_code (3 : Nat) (Option.some Jvm.ClassFile.FieldType.int)) ∈ pg_W := tb_8 (i := 62) rfl rfl
theorem pw8_63 : (Jvm.Cond.methodLink "SkyMarginsLaw" (134 : Nat) ({ cls := "SkyMarginsModel", name := "times", desc := "(III)I" } : Jvm.MethodName)) ∈ pg_W := tb_8 (i := 63) rfl rfl
theorem pw8_64 : (Jvm.Cond.instanceMethod ({ cls := "SkyMarginsModel", name := "times", desc := "(III)I" } : Jvm.MethodName)) ∈ pg_W := tb_8 (i := 64) rfl rfl
theorem pw8_65 : (Jvm.Cond.selects "SkyMarginsModel" ({ cls := "SkyMarginsModel", name := "times", desc := "(III)I" } : Jvm.MethodName) ({ cls := "SkyMarginsModel", name := "times", desc := "(III)I" } : Jvm.MethodName)) ∈ pg_W := tb_8 (i := 65) rfl rfl
theorem pw8_66 : (Jvm.Cond.code ({ cls := "SkyMarginsModel", name := "times", desc := "(III)I" } : Jvm.MethodName) prog_14_method_105_code (4 : Nat) (Option.some Jvm.ClassFile.FieldType.int)) ∈ pg_W := tb_8 (i := 66) rfl rfl
theorem pw8_67 : (Jvm.Cond.methodLink "SkyMarginsModel" (385 : Nat) ({ cls := "SkyMarginsModel", name := "likens", desc := "(III)V" } : Jvm.MethodName)) ∈ pg_W := tb_8 (i := 67) rfl rfl
theorem pw8_69 : (Jvm.Cond.instanceMethod ({ cls := "SkyMarginsModel", name := "likens", desc := "(III)V" } : Jvm.MethodName)) ∈ pg_W := tb_8 (i := 69) rfl rfl
theorem pw8_70 : (Jvm.Cond.code ({ cls := "SkyMarginsModel", name := "likens", desc := "(III)V" } : Jvm.MethodName) prog_14_method_104_code (6 : Nat) (Option.none : Option Jvm.ClassFile.FieldType)) ∈ pg_W := tb_8 (i := 70) rfl rfl
theorem pw8_71 : (Jvm.Cond.methodLink "SkyMarginsModel" (378 : Nat) ({ cls := "SkyMarginsModel", name := "be", desc := "([JJ)V" } : Jvm.MethodName)) ∈ pg_W := tb_8 (i := 71) rfl rfl
theorem pw8_72 : (Jvm.Cond.static ({ cls := "SkyMarginsModel", name := "be", desc := "([JJ)V" } : Jvm.MethodName)) ∈ pg_W := tb_8 (i := 72) rfl rfl
theorem pw8_73 : (Jvm.Cond.code ({ cls := "SkyMarginsModel", name := "be", desc := "([JJ)V" } : Jvm.MethodName) prog_14_method_98_code (4 : Nat) (Option.none : Option Jvm.ClassFile.FieldType)) ∈ pg_W := tb_8 (i := 73) rfl rfl
theorem pw8_74 : (Jvm.Cond.methodLink "SkyMarginsModel" (375 : Nat) ({ cls := "SkyMarginsModel", name := "handOf", desc := "(II)I" } : Jvm.MethodName)) ∈ pg_W := tb_8 (i := 74) rfl rfl
theorem pw8_76 : (Jvm.Cond.instanceMethod ({ cls := "SkyMarginsModel", name := "handOf", desc := "(II)I" } : Jvm.MethodName)) ∈ pg_W := tb_8 (i := 76) rfl rfl
theorem pw8_77 : (Jvm.Cond.code ({ cls := "SkyMarginsModel", name := "handOf", desc := "(II)I" } : Jvm.MethodName) prog_14_method_14_code (3 : Nat) (Option.some Jvm.ClassFile.FieldType.int)) ∈ pg_W := tb_8 (i := 77) rfl rfl
theorem pw8_78 : (Jvm.Cond.methodLink "SkyMarginsModel" (367 : Nat) ({ cls := "SkyMarginsModel", name := "makes", desc := "([JII)V" } : Jvm.MethodName)) ∈ pg_W := tb_8 (i := 78) rfl rfl
theorem pw8_79 : (Jvm.Cond.static ({ cls := "SkyMarginsModel", name := "makes", desc := "([JII)V" } : Jvm.MethodName)) ∈ pg_W := tb_8 (i := 79) rfl rfl
theorem pw8_80 : (Jvm.Cond.code ({ cls := "SkyMarginsModel", name := "makes", desc := "([JII)V" } : Jvm.MethodName) prog_14_method_99_code (9 : Nat) (Option.none : Option Jvm.ClassFile.FieldType)) ∈ pg_W := tb_8 (i := 80) rfl rfl
theorem pw8_81 : (Jvm.Cond.constantLong "SkyMarginsModel" (365 : Nat) (100000000 : Int64)) ∈ pg_W := tb_8 (i := 81) rfl rfl
theorem pw8_82 : (Jvm.Cond.methodLink "SkyMarginsModel" (382 : Nat) ({ cls := "SkyMarginsModel", name := "formsOf", desc := "(I)I" } : Jvm.MethodName)) ∈ pg_W := tb_8 (i := 82) rfl rfl
theorem pw8_84 : (Jvm.Cond.instanceMethod ({ cls := "SkyMarginsModel", name := "formsOf", desc := "(I)I" } : Jvm.MethodName)) ∈ pg_W := tb_8 (i := 84) rfl rfl
theorem pw8_85 : (Jvm.Cond.code ({ cls := "SkyMarginsModel", name := "formsOf", desc := "(I)I" } : Jvm.MethodName) prog_14_method_103_code (4 : Nat) (Option.some Jvm.ClassFile.FieldType.int)) ∈ pg_W := tb_8 (i := 85) rfl rfl
theorem pw8_86 : (Jvm.Cond.methodLink "SkyMarginsModel" (389 : Nat) ({ cls := "SkyMarginsModel", name := "quotient", desc := "()I" } : Jvm.MethodName)) ∈ pg_W := tb_8 (i := 86) rfl rfl
theorem pw8_88 : (Jvm.Cond.instanceMethod ({ cls := "SkyMarginsModel", name := "quotient", desc := "()I" } : Jvm.MethodName)) ∈ pg_W := tb_8 (i := 88) rfl rfl
theorem pw8_89 : (Jvm.Cond.code ({ cls := "SkyMarginsModel", name := "quotient", desc := "()I" } : Jvm.MethodName) prog_14_method_102_code (5 : Nat) (Option.some Jvm.ClassFile.FieldType.int)) ∈ pg_W := tb_8 (i := 89) rfl rfl
theorem pw8_90 : (Jvm.Cond.methodLink "SkyMarginsModel" (371 : Nat) ({ cls := "SkyMarginsModel", name := "order", desc := "([J[J)I" } : Jvm.MethodName)) ∈ pg_W := tb_8 (i := 90) rfl rfl
theorem pw8_91 : (Jvm.Cond.static ({ cls := "SkyMarginsModel", name := "order", desc := "([J[J)I" } : Jvm.MethodName)) ∈ pg_W := tb_8 (i := 91) rfl rfl
theorem pw8_92 : (Jvm.Cond.code ({ cls := "SkyMarginsModel", name := "order", desc := "([J[J)I" } : Jvm.MethodName) prog_14_method_101_code (3 : Nat) (Option.some Jvm.ClassFile.FieldType.int)) ∈ pg_W := tb_8 (i := 92) rfl rfl
theorem pw8_93 : (Jvm.Cond.methodLink "SkyMarginsLaw" (138 : Nat) ({ cls := "SkyMarginsModel", name := "written", desc := "(I)I" } : Jvm.MethodName)) ∈ pg_W := tb_8 (i := 93) rfl rfl
theorem pw8_94 : (Jvm.Cond.instanceMethod ({ cls := "SkyMarginsModel", name := "written", desc := "(I)I" } : Jvm.MethodName)) ∈ pg_W := tb_8 (i := 94) rfl rfl
theorem pw8_95 : (Jvm.Cond.selects "SkyMarginsModel" ({ cls := "SkyMarginsModel", name := "written", desc := "(I)I" } : Jvm.MethodName) ({ cls := "SkyMarginsModel", name := "written", desc := "(I)I" } : Jvm.MethodName)) ∈ pg_W := tb_8 (i := 95) rfl rfl
theorem pw8_96 : (Jvm.Cond.code ({ cls := "SkyMarginsModel", name := "written", desc := "(I)I" } : Jvm.MethodName) prog_14_method_106_code (4 : Nat) (Option.some Jvm.ClassFile.FieldType.int)) ∈ pg_W := tb_8 (i := 96) rfl rfl
theorem pw8_97 : (Jvm.Cond.methodLink "SkyMarginsLaw" (142 : Nat) ({ cls := "SkyMarginsModel", name := "towns", desc := "(I)I" } : Jvm.MethodName)) ∈ pg_W := tb_8 (i := 97) rfl rfl
theorem pw8_98 : (Jvm.Cond.instanceMethod ({ cls := "SkyMarginsModel", name := "towns", desc := "(I)I" } : Jvm.MethodName)) ∈ pg_W := tb_8 (i := 98) rfl rfl
theorem pw8_99 : (Jvm.Cond.selects "SkyMarginsModel" ({ cls := "SkyMarginsModel", name := "towns", desc := "(I)I" } : Jvm.MethodName) ({ cls := "SkyMarginsModel", name := "towns", desc := "(I)I" } : Jvm.MethodName)) ∈ pg_W := tb_8 (i := 99) rfl rfl
theorem pw8_100 : (Jvm.Cond.code ({ cls := "SkyMarginsModel", name := "towns", desc := "(I)I" } : Jvm.MethodName) prog_14_method_108_code (6 : Nat) (Option.some Jvm.ClassFile.FieldType.int)) ∈ pg_W := tb_8 (i := 100) rfl rfl
theorem pw8_101 : (Jvm.Cond.methodLink "SkyMarginsModel" (392 : Nat) ({ cls := "SkyMarginsModel", name := "isIn", desc := "(II)Z" } : Jvm.MethodName)) ∈ pg_W := tb_8 (i := 101) rfl rfl
theorem pw8_103 : (Jvm.Cond.instanceMethod ({ cls := "SkyMarginsModel", name := "isIn", desc := "(II)Z" } : Jvm.MethodName)) ∈ pg_W := tb_8 (i := 103) rfl rfl
theorem pw8_104 : (Jvm.Cond.code ({ cls := "SkyMarginsModel", name := "isIn", desc := "(II)Z" } : Jvm.MethodName) prog_14_method_107_code (5 : Nat) (Option.some Jvm.ClassFile.FieldType.boolean)) ∈ pg_W := tb_8 (i := 104) rfl rfl
theorem pw8_105 : (Jvm.Cond.methodLink "SkyMarginsLaw" (146 : Nat) ({ cls := "SkyMarginsModel", name := "dates", desc := "(II)I" } : Jvm.MethodName)) ∈ pg_W := tb_8 (i := 105) rfl rfl
theorem pw8_106 : (Jvm.Cond.instanceMethod ({ cls := "SkyMarginsModel", name := "dates", desc := "(II)I" } : Jvm.MethodName)) ∈ pg_W := tb_8 (i := 106) rfl rfl
theorem pw8_107 : (Jvm.Cond.selects "SkyMarginsModel" ({ cls := "SkyMarginsModel", name := "dates", desc := "(II)I" } : Jvm.MethodName) ({ cls := "SkyMarginsModel", name := "dates", desc := "(II)I" } : Jvm.MethodName)) ∈ pg_W := tb_8 (i := 107) rfl rfl
theorem pw8_108 : (Jvm.Cond.code ({ cls := "SkyMarginsModel", name := "dates", desc := "(II)I" } : Jvm.MethodName) prog_14_method_111_code (5 : Nat) (Option.some Jvm.ClassFile.FieldType.int)) ∈ pg_W := tb_8 (i := 108) rfl rfl
theorem pw8_109 : (Jvm.Cond.methodLink "SkyMarginsModel" (395 : Nat) ({ cls := "SkyMarginsModel", name := "fromOf", desc := "(I)I" } : Jvm.MethodName)) ∈ pg_W := tb_8 (i := 109) rfl rfl
theorem pw8_111 : (Jvm.Cond.instanceMethod ({ cls := "SkyMarginsModel", name := "fromOf", desc := "(I)I" } : Jvm.MethodName)) ∈ pg_W := tb_8 (i := 111) rfl rfl
theorem pw8_112 : (Jvm.Cond.code ({ cls := "SkyMarginsModel", name := "fromOf", desc := "(I)I" } : Jvm.MethodName) prog_14_method_109_code (5 : Nat) (Option.some Jvm.ClassFile.FieldType.int)) ∈ pg_W := tb_8 (i := 112) rfl rfl
theorem pw8_113 : (Jvm.Cond.methodLink "SkyMarginsModel" (398 : Nat) ({ cls := "SkyMarginsModel", name := "toOf", desc := "(I)I" } : Jvm.MethodName)) ∈ pg_W := tb_8 (i := 113) rfl rfl
theorem pw8_115 : (Jvm.Cond.instanceMethod ({ cls := "SkyMarginsModel", name := "toOf", desc := "(I)I" } : Jvm.MethodName)) ∈ pg_W := tb_8 (i := 115) rfl rfl
theorem pw8_116 : (Jvm.Cond.code ({ cls := "SkyMarginsModel", name := "toOf", desc := "(I)I" } : Jvm.MethodName) prog_14_method_110_code (5 : Nat) (Option.some Jvm.ClassFile.FieldType.int)) ∈ pg_W := tb_8 (i := 116) rfl rfl
theorem pw8_117 : (Jvm.Cond.methodLink "SkyMarginsLaw" (154 : Nat) ({ cls := "SkyMarginsModel", name := "stops", desc := "(II)I" } : Jvm.MethodName)) ∈ pg_W := tb_8 (i := 117) rfl rfl
theorem pw8_118 : (Jvm.Cond.instanceMethod ({ cls := "SkyMarginsModel", name := "stops", desc := "(II)I" } : Jvm.MethodName)) ∈ pg_W := tb_8 (i := 118) rfl rfl
theorem pw8_119 : (Jvm.Cond.selects "SkyMarginsModel" ({ cls := "SkyMarginsModel", name := "stops", desc := "(II)I" } : Jvm.MethodName) ({ cls := "SkyMarginsModel", name := "stops", desc := "(II)I" } : Jvm.MethodName)) ∈ pg_W := tb_8 (i := 119) rfl rfl
theorem pw8_120 : (Jvm.Cond.code ({ cls := "SkyMarginsModel", name := "stops", desc := "(II)I" } : Jvm.MethodName) prog_14_method_113_code (6 : Nat) (Option.some Jvm.ClassFile.FieldType.int)) ∈ pg_W := tb_8 (i := 120) rfl rfl
theorem pw8_121 : (Jvm.Cond.methodLink "SkyMarginsModel" (401 : Nat) ({ cls := "SkyMarginsModel", name := "isNoted", desc := "(II)Z" } : Jvm.MethodName)) ∈ pg_W := tb_8 (i := 121) rfl rfl
theorem pw8_123 : (Jvm.Cond.instanceMethod ({ cls := "SkyMarginsModel", name := "isNoted", desc := "(II)Z" } : Jvm.MethodName)) ∈ pg_W := tb_8 (i := 123) rfl rfl
theorem pw8_124 : (Jvm.Cond.code ({ cls := "SkyMarginsModel", name := "isNoted", desc := "(II)Z" } : Jvm.MethodName) prog_14_method_112_code (5 : Nat) (Option.some Jvm.ClassFile.FieldType.boolean)) ∈ pg_W := tb_8 (i := 124) rfl rfl
theorem pw8_125 : (Jvm.Cond.methodLink "SkyMarginsLaw" (150 : Nat) ({ cls := "SkyMarginsModel", name := "read", desc := "(II)I" } : Jvm.MethodName)) ∈ pg_W := tb_8 (i := 125) rfl rfl
theorem pw8_126 : (Jvm.Cond.instanceMethod ({ cls := "SkyMarginsModel", name := "read", desc := "(II)I" } : Jvm.MethodName)) ∈ pg_W := tb_8 (i := 126) rfl rfl
theorem pw8_127 : (Jvm.Cond.selects "SkyMarginsModel" ({ cls := "SkyMarginsModel", name := "read", desc := "(II)I" } : Jvm.MethodName) ({ cls := "SkyMarginsModel", name := "read", desc := "(II)I" } : Jvm.MethodName)) ∈ pg_W := tb_8 (i := 127) rfl rfl
theorem pw8_128 : (Jvm.Cond.code ({ cls := "SkyMarginsModel", name := "read", desc := "(II)I" } : Jvm.MethodName) prog_14_method_115_code (4 : Nat) (Option.some Jvm.ClassFile.FieldType.int)) ∈ pg_W := tb_8 (i := 128) rfl rfl
theorem pw8_129 : (Jvm.Cond.methodLink "SkyMarginsModel" (404 : Nat) ({ cls := "SkyMarginsModel", name := "asksCopy", desc := "(II)V" } : Jvm.MethodName)) ∈ pg_W := tb_8 (i := 129) rfl rfl
theorem pw8_131 : (Jvm.Cond.instanceMethod ({ cls := "SkyMarginsModel", name := "asksCopy", desc := "(II)V" } : Jvm.MethodName)) ∈ pg_W := tb_8 (i := 131) rfl rfl
theorem pw8_132 : (Jvm.Cond.code ({ cls := "SkyMarginsModel", name := "asksCopy", desc := "(II)V" } : Jvm.MethodName) prog_14_method_69_code (3 : Nat) (Option.none : Option Jvm.ClassFile.FieldType)) ∈ pg_W := tb_8 (i := 132) rfl rfl
theorem pw8_133 : (Jvm.Cond.methodLink "SkyMarginsModel" (299 : Nat) ({ cls := "SkyMarginsModel", name := "copyOf", desc := "(II)I" } : Jvm.MethodName)) ∈ pg_W := tb_8 (i := 133) rfl rfl
theorem pw8_135 : (Jvm.Cond.instanceMethod ({ cls := "SkyMarginsModel", name := "copyOf", desc := "(II)I" } : Jvm.MethodName)) ∈ pg_W := tb_8 (i := 135) rfl rfl
theorem pw8_136 : (Jvm.Cond.code ({ cls := "SkyMarginsModel", name := "copyOf", desc := "(II)I" } : Jvm.MethodName) prog_14_method_12_code (3 : Nat) (Option.some Jvm.ClassFile.FieldType.int)) ∈ pg_W := tb_8 (i := 136) rfl rfl
theorem pw8_137 : (Jvm.Cond.methodLink "SkyMarginsModel" (407 : Nat) ({ cls := "SkyMarginsModel", name := "hundredth", desc := "(I)I" } : Jvm.MethodName)) ∈ pg_W := tb_8 (i := 137) rfl rfl
theorem pw8_139 : (Jvm.Cond.instanceMethod ({ cls := "SkyMarginsModel", name := "hundredth", desc := "(I)I" } : Jvm.MethodName)) ∈ pg_W := tb_8 (i := 139) rfl rfl
theorem pw8_140 : (Jvm.Cond.code ({ cls := "SkyMarginsModel", name := "hundredth", desc := "(I)I" } : Jvm.MethodName) prog_14_method_70_code (2 : Nat) (Option.some Jvm.ClassFile.FieldType.int)) ∈ pg_W := tb_8 (i := 140) rfl rfl
theorem pw8_141 : (Jvm.Cond.methodLink "SkyMarginsModel" (410 : Nat) ({ cls := "SkyMarginsModel", name := "chanceOf", desc := "(II)V" } : Jvm.MethodName)) ∈ pg_W := tb_8 (i := 141) rfl rfl
theorem pw8_143 : (Jvm.Cond.instanceMethod ({ cls := "SkyMarginsModel", name := "chanceOf", desc := "(II)V" } : Jvm.MethodName)) ∈ pg_W := tb_8 (i := 143) rfl rfl
theorem pw8_144 : (Jvm.Cond.code ({ cls := "SkyMarginsModel", name := "chanceOf", desc := "(II)V" } : Jvm.MethodName) prog_14_method_114_code (5 : Nat) (Option.none : Option Jvm.ClassFile.FieldType)) ∈ pg_W := tb_8 (i := 144) rfl rfl
theorem pw8_145 : (Jvm.Cond.methodLink "SkyMarginsModel" (413 : Nat) ({ cls := "SkyMarginsModel", name := "adds", desc := "([J[J)V" } : Jvm.MethodName)) ∈ pg_W := tb_8 (i := 145) rfl rfl
theorem pw8_146 : (Jvm.Cond.static ({ cls := "SkyMarginsModel", name := "adds", desc := "([J[J)V" } : Jvm.MethodName)) ∈ pg_W := tb_8 (i := 146) rfl rfl
theorem pw8_147 : (Jvm.Cond.code ({ cls := "SkyMarginsModel", name := "adds", desc := "([J[J)V" } : Jvm.MethodName) prog_14_method_100_code (7 : Nat) (Option.none : Option Jvm.ClassFile.FieldType)) ∈ pg_W := tb_8 (i := 147) rfl rfl
theorem pw8_148 : (Jvm.Cond.methodLink "SkyMarginsLaw" (158 : Nat) ({ cls := "SkyMarginsModel", name := "many", desc := "(II)I" } : Jvm.MethodName)) ∈ pg_W := tb_8 (i := 148) rfl rfl
theorem pw8_149 : (Jvm.Cond.instanceMethod ({ cls := "SkyMarginsModel", name := "many", desc := "(II)I" } : Jvm.MethodName)) ∈ pg_W := tb_8 (i := 149) rfl rfl
theorem pw8_150 : (Jvm.Cond.selects "SkyMarginsModel" ({ cls := "SkyMarginsModel", name := "many", desc := "(II)I" } : Jvm.MethodName) ({ cls := "SkyMarginsModel", name := "many", desc := "(II)I" } : Jvm.MethodName)) ∈ pg_W := tb_8 (i := 150) rfl rfl
theorem pw8_151 : (Jvm.Cond.code ({ cls := "SkyMarginsModel", name := "many", desc := "(II)I" } : Jvm.MethodName) prog_14_method_117_code (7 : Nat) (Option.some Jvm.ClassFile.FieldType.int)) ∈ pg_W := tb_8 (i := 151) rfl rfl
theorem pw8_152 : (Jvm.Cond.methodLink "SkyMarginsModel" (417 : Nat) ({ cls := "SkyMarginsModel", name := "isOn", desc := "(II)Z" } : Jvm.MethodName)) ∈ pg_W := tb_8 (i := 152) rfl rfl
theorem pw8_154 : (Jvm.Cond.instanceMethod ({ cls := "SkyMarginsModel", name := "isOn", desc := "(II)Z" } : Jvm.MethodName)) ∈ pg_W := tb_8 (i := 154) rfl rfl
theorem pw8_155 : (Jvm.Cond.code ({ cls := "SkyMarginsModel", name := "isOn", desc := "(II)Z" } : Jvm.MethodName) prog_14_method_116_code (3 : Nat) (Option.some Jvm.ClassFile.FieldType.boolean)) ∈ pg_W := tb_8 (i := 155) rfl rfl
theorem pw8_156 : (Jvm.Cond.methodLink "SkyMarginsLaw" (162 : Nat) ({ cls := "SkyMarginsModel", name := "chao", desc := "()I" } : Jvm.MethodName)) ∈ pg_W := tb_8 (i := 156) rfl rfl
theorem pw8_157 : (Jvm.Cond.instanceMethod ({ cls := "SkyMarginsModel", name := "chao", desc := "()I" } : Jvm.MethodName)) ∈ pg_W := tb_8 (i := 157) rfl rfl
theorem pw8_158 : (Jvm.Cond.selects "SkyMarginsModel" ({ cls := "SkyMarginsModel", name := "chao", desc := "()I" } : Jvm.MethodName) ({ cls := "SkyMarginsModel", name := "chao", desc := "()I" } : Jvm.MethodName)) ∈ pg_W := tb_8 (i := 158) rfl rfl
theorem pw8_159 : (Jvm.Cond.code ({ cls := "SkyMarginsModel", name := "chao", desc := "()I" } : Jvm.MethodName) prog_14_method_118_code (7 : Nat) (Option.some Jvm.ClassFile.FieldType.int)) ∈ pg_W := tb_8 (i := 159) rfl rfl
theorem pw8_160 : (Jvm.Cond.methodLink "SkyMarginsLaw" (166 : Nat) ({ cls := "SkyMarginsModel", name := "censor", desc := "(III)I" } : Jvm.MethodName)) ∈ pg_W := tb_8 (i := 160) rfl rfl
theorem pw8_161 : (Jvm.Cond.instanceMethod ({ cls := "SkyMarginsModel", name := "censor", desc := "(III)I" } : Jvm.MethodName)) ∈ pg_W := tb_8 (i := 161) rfl rfl
theorem pw8_162 : (Jvm.Cond.selects "SkyMarginsModel" ({ cls := "SkyMarginsModel", name := "censor", desc := "(III)I" } : Jvm.MethodName) ({ cls := "SkyMarginsModel", name := "censor", desc := "(III)I" } : Jvm.MethodName)) ∈ pg_W := tb_8 (i := 162) rfl rfl
theorem pw8_163 : (Jvm.Cond.code ({ cls := "SkyMarginsModel", name := "censor", desc := "(III)I" } : Jvm.MethodName) prog_14_method_120_code (13 : Nat) (Option.some Jvm.ClassFile.FieldType.int)) ∈ pg_W := tb_8 (i := 163) rfl rfl
theorem pw8_164 : (Jvm.Cond.methodLink "SkyMarginsModel" (420 : Nat) ({ cls := "SkyMarginsModel", name := "isStruck", desc := "(II)Z" } : Jvm.MethodName)) ∈ pg_W := tb_8 (i := 164) rfl rfl
theorem pw8_166 : (Jvm.Cond.instanceMethod ({ cls := "SkyMarginsModel", name := "isStruck", desc := "(II)Z" } : Jvm.MethodName)) ∈ pg_W := tb_8 (i := 166) rfl rfl
theorem pw8_167 : (Jvm.Cond.code ({ cls := "SkyMarginsModel", name := "isStruck", desc := "(II)Z" } : Jvm.MethodName) prog_14_method_119_code (3 : Nat) (Option.some Jvm.ClassFile.FieldType.boolean)) ∈ pg_W := tb_8 (i := 167) rfl rfl
theorem pw8_168 : (Jvm.Cond.methodLink "SkyMarginsLaw" (170 : Nat) ({ cls := "SkyMarginsModel", name := "late", desc := "(II)I" } : Jvm.MethodName)) ∈ pg_W := tb_8 (i := 168) rfl rfl
theorem pw8_169 : (Jvm.Cond.instanceMethod ({ cls := "SkyMarginsModel", name := "late", desc := "(II)I" } : Jvm.MethodName)) ∈ pg_W := tb_8 (i := 169) rfl rfl
theorem pw8_170 : (Jvm.Cond.selects "SkyMarginsModel" ({ cls := "SkyMarginsModel", name := "late", desc := "(II)I" } : Jvm.MethodName) ({ cls := "SkyMarginsModel", name := "late", desc := "(II)I" } : Jvm.MethodName)) ∈ pg_W := tb_8 (i := 170) rfl rfl
theorem pw8_171 : (Jvm.Cond.code ({ cls := "SkyMarginsModel", name := "late", desc := "(II)I" } : Jvm.MethodName) prog_14_method_121_code (5 : Nat) (Option.some Jvm.ClassFile.FieldType.int)) ∈ pg_W := tb_8 (i := 171) rfl rfl
theorem pw8_172 : (Jvm.Cond.methodLink "SkyMarginsLaw" (174 : Nat) ({ cls := "SkyMarginsModel", name := "next", desc := "(I)I" } : Jvm.MethodName)) ∈ pg_W := tb_8 (i := 172) rfl rfl
theorem pw8_173 : (Jvm.Cond.instanceMethod ({ cls := "SkyMarginsModel", name := "next", desc := "(I)I" } : Jvm.MethodName)) ∈ pg_W := tb_8 (i := 173) rfl rfl
theorem pw8_174 : (Jvm.Cond.selects "SkyMarginsModel" ({ cls := "SkyMarginsModel", name := "next", desc := "(I)I" } : Jvm.MethodName) ({ cls := "SkyMarginsModel", name := "next", desc := "(I)I" } : Jvm.MethodName)) ∈ pg_W := tb_8 (i := 174) rfl rfl
theorem pw8_175 : (Jvm.Cond.code ({ cls := "SkyMarginsModel", name := "next", desc := "(I)I" } : Jvm.MethodName) prog_14_method_122_code (7 : Nat) (Option.some Jvm.ClassFile.FieldType.int)) ∈ pg_W := tb_8 (i := 175) rfl rfl
theorem pw8_176 : (Jvm.Cond.methodLink "SkyMarginsLaw" (178 : Nat) ({ cls := "SkyMarginsModel", name := "run", desc := "(I)I" } : Jvm.MethodName)) ∈ pg_W := tb_8 (i := 176) rfl rfl
theorem pw8_177 : (Jvm.Cond.instanceMethod ({ cls := "SkyMarginsModel", name := "run", desc := "(I)I" } : Jvm.MethodName)) ∈ pg_W := tb_8 (i := 177) rfl rfl
theorem pw8_178 : (Jvm.Cond.selects "SkyMarginsModel" ({ cls := "SkyMarginsModel", name := "run", desc := "(I)I" } : Jvm.MethodName) ({ cls := "SkyMarginsModel", name := "run", desc := "(I)I" } : Jvm.MethodName)) ∈ pg_W := tb_8 (i := 178) rfl rfl
theorem pw8_179 : (Jvm.Cond.code ({ cls := "SkyMarginsModel", name := "run", desc := "(I)I" } : Jvm.MethodName) prog_14_method_125_code (6 : Nat) (Option.some Jvm.ClassFile.FieldType.int)) ∈ pg_W := tb_8 (i := 179) rfl rfl
theorem pw8_180 : (Jvm.Cond.methodLink "SkyMarginsModel" (435 : Nat) ({ cls := "SkyMarginsModel", name := "draw", desc := "(II)V" } : Jvm.MethodName)) ∈ pg_W := tb_8 (i := 180) rfl rfl
theorem pw8_182 : (Jvm.Cond.instanceMethod ({ cls := "SkyMarginsModel", name := "draw", desc := "(II)V" } : Jvm.MethodName)) ∈ pg_W := tb_8 (i := 182) rfl rfl
theorem pw8_183 : (Jvm.Cond.code ({ cls := "SkyMarginsModel", name := "draw", desc := "(II)V" } : Jvm.MethodName) prog_14_method_124_code (8 : Nat) (Option.none : Option Jvm.ClassFile.FieldType)) ∈ pg_W := tb_8 (i := 183) rfl rfl
theorem pw8_184 : (Jvm.Cond.methodLink "SkyMarginsModel" (432 : Nat) ({ cls := "SkyMarginsModel", name := "draws", desc := "(I)I" } : Jvm.MethodName)) ∈ pg_W := tb_8 (i := 184) rfl rfl
theorem pw8_186 : (Jvm.Cond.instanceMethod ({ cls := "SkyMarginsModel", name := "draws", desc := "(I)I" } : Jvm.MethodName)) ∈ pg_W := tb_8 (i := 186) rfl rfl
theorem pw8_187 : (Jvm.Cond.code ({ cls := "SkyMarginsModel", name := "draws", desc := "(I)I" } : Jvm.MethodName) prog_14_method_123_code (2 : Nat) (Option.some Jvm.ClassFile.FieldType.int)) ∈ pg_W := tb_8 (i := 187) rfl rfl
theorem pw8_188 : (Jvm.Cond.constantLong "SkyMarginsModel" (423 : Nat) (1103 : Int64)) ∈ pg_W := tb_8 (i := 188) rfl rfl
theorem pw8_189 : (Jvm.Cond.constantLong "SkyMarginsModel" (428 : Nat) (12345 : Int64)) ∈ pg_W := tb_8 (i := 189) rfl rfl
theorem pw8_190 : (Jvm.Cond.constantLong "SkyMarginsModel" (430 : Nat) (1000003 : Int64)) ∈ pg_W := tb_8 (i := 190) rfl rfl
theorem pw8_191 : (Jvm.Cond.methodLink "SkyMarginsLaw" (182 : Nat) ({ cls := "SkyMarginsModel", name := "world", desc := "(II)I" } : Jvm.MethodName)) ∈ pg_W := tb_8 (i := 191) rfl rfl
theorem pw8_192 : (Jvm.Cond.instanceMethod ({ cls := "SkyMarginsModel", name := "world", desc := "(II)I" } : Jvm.MethodName)) ∈ pg_W := tb_8 (i := 192) rfl rfl
theorem pw8_193 : (Jvm.Cond.selects "SkyMarginsModel" ({ cls := "SkyMarginsModel", name := "world", desc := "(II)I" } : Jvm.MethodName) ({ cls := "SkyMarginsModel", name := "world", desc := "(II)I" } : Jvm.MethodName)) ∈ pg_W := tb_8 (i := 193) rfl rfl
theorem pw8_194 : (Jvm.Cond.code ({ cls := "SkyMarginsModel", name := "world", desc := "(II)I" } : Jvm.MethodName) prog_14_method_127_code (5 : Nat) (Option.some Jvm.ClassFile.FieldType.int)) ∈ pg_W := tb_8 (i := 194) rfl rfl
theorem pw8_195 : (Jvm.Cond.methodLink "SkyMarginsModel" (438 : Nat) ({ cls := "SkyMarginsModel", name := "hasWorld", desc := "(II)Z" } : Jvm.MethodName)) ∈ pg_W := tb_8 (i := 195) rfl rfl
theorem pw8_197 : (Jvm.Cond.instanceMethod ({ cls := "SkyMarginsModel", name := "hasWorld", desc := "(II)Z" } : Jvm.MethodName)) ∈ pg_W := tb_8 (i := 197) rfl rfl
theorem pw8_198 : (Jvm.Cond.code ({ cls := "SkyMarginsModel", name := "hasWorld", desc := "(II)Z" } : Jvm.MethodName) prog_14_method_126_code (5 : Nat) (Option.some Jvm.ClassFile.FieldType.boolean)) ∈ pg_W := tb_8 (i := 198) rfl rfl
theorem pw8_199 : (Jvm.Cond.methodLink "SkyMarginsLaw" (194 : Nat) ({ cls := "SkyMarginsModel", name := "count", desc := "(I)I" } : Jvm.MethodName)) ∈ pg_W := tb_8 (i := 199) rfl rfl
theorem pw8_200 : (Jvm.Cond.instanceMethod ({ cls := "SkyMarginsModel", name := "count", desc := "(I)I" } : Jvm.MethodName)) ∈ pg_W := tb_8 (i := 200) rfl rfl
theorem pw8_201 : (Jvm.Cond.selects "SkyMarginsModel" ({ cls := "SkyMarginsModel", name := "count", desc := "(I)I" } : Jvm.MethodName) ({ cls := "SkyMarginsModel", name := "count", desc := "(I)I" } : Jvm.MethodName)) ∈ pg_W := tb_8 (i := 201) rfl rfl
theorem pw8_202 : (Jvm.Cond.code ({ cls := "SkyMarginsModel", name := "count", desc := "(I)I" } : Jvm.MethodName) prog_14_method_128_code (5 : Nat) (Option.some Jvm.ClassFile.FieldType.int)) ∈ pg_W := tb_8 (i := 202) rfl rfl
theorem pw8_203 : (Jvm.Cond.methodLink "SkyMarginsLaw" (198 : Nat) ({ cls := "SkyMarginsModel", name := "status", desc := "()I" } : Jvm.MethodName)) ∈ pg_W := tb_8 (i := 203) rfl rfl
theorem pw8_204 : (Jvm.Cond.instanceMethod ({ cls := "SkyMarginsModel", name := "status", desc := "()I" } : Jvm.MethodName)) ∈ pg_W := tb_8 (i := 204) rfl rfl
theorem pw8_205 : (Jvm.Cond.selects "SkyMarginsModel" ({ cls := "SkyMarginsModel", name := "status", desc := "()I" } : Jvm.MethodName) ({ cls := "SkyMarginsModel", name := "status", desc := "()I" } : Jvm.MethodName)) ∈ pg_W := tb_8 (i := 205) rfl rfl
theorem pw8_206 : (Jvm.Cond.code ({ cls := "SkyMarginsModel", name := "status", desc := "()I" } : Jvm.MethodName) prog_14_method_129_code (1 : Nat) (Option.some Jvm.ClassFile.FieldType.int)) ∈ pg_W := tb_8 (i := 206) rfl rfl
theorem pw_arr_int : (Jvm.Cond.arrayClass Jvm.ClassFile.FieldType.int) ∈ pg_W := tb_1 (i := 59) rfl rfl
theorem pw_arr_long : (Jvm.Cond.arrayClass Jvm.ClassFile.FieldType.long) ∈ pg_W := tb_1 (i := 185) rfl rfl
theorem pw_arr_boolean : (Jvm.Cond.arrayClass Jvm.ClassFile.FieldType.boolean) ∈ pg_W := tb_1 (i := 134) rfl rfl
theorem pw_arr_byte : (Jvm.Cond.arrayClass Jvm.ClassFile.FieldType.byte) ∈ pg_W := tb_4 (i := 17) rfl rfl
theorem pw_max1 : (Jvm.Cond.static ({ cls := "java/lang/Math", name := "max", desc := "(II)I" } : Jvm.MethodName)) ∈ pg_W := tb_1 (i := 44) rfl rfl
theorem pw_max2 : (Jvm.Cond.code ({ cls := "java/lang/Math", name := "max", desc := "(II)I" } : Jvm.MethodName) prog_18_method_65_code (2 : Nat) (Option.some Jvm.ClassFile.FieldType.int)) ∈ pg_W := tb_1 (i := 45) rfl rfl
theorem pw_min1 : (Jvm.Cond.static ({ cls := "java/lang/Math", name := "min", desc := "(II)I" } : Jvm.MethodName)) ∈ pg_W := tb_3 (i := 86) rfl rfl
theorem pw_min2 : (Jvm.Cond.code ({ cls := "java/lang/Math", name := "min", desc := "(II)I" } : Jvm.MethodName) prog_18_method_69_code (2 : Nat) (Option.some Jvm.ClassFile.FieldType.int)) ∈ pg_W := tb_3 (i := 87) rfl rfl
theorem pw_maxL1 : (Jvm.Cond.static ({ cls := "java/lang/Math", name := "max", desc := "(JJ)J" } : Jvm.MethodName)) ∈ pg_W := tb_3 (i := 42) rfl rfl
theorem pw_maxL2 : (Jvm.Cond.code ({ cls := "java/lang/Math", name := "max", desc := "(JJ)J" } : Jvm.MethodName) prog_18_method_66_code (4 : Nat) (Option.some Jvm.ClassFile.FieldType.long)) ∈ pg_W := tb_3 (i := 43) rfl rfl
theorem pw_minL1 : (Jvm.Cond.static ({ cls := "java/lang/Math", name := "min", desc := "(JJ)J" } : Jvm.MethodName)) ∈ pg_W := tb_3 (i := 39) rfl rfl
theorem pw_minL2 : (Jvm.Cond.code ({ cls := "java/lang/Math", name := "min", desc := "(JJ)J" } : Jvm.MethodName) prog_18_method_70_code (4 : Nat) (Option.some Jvm.ClassFile.FieldType.long)) ∈ pg_W := tb_3 (i := 40) rfl rfl
theorem pw_math : (Jvm.Cond.initialized "java/lang/Math") ∈ pg_W := tb_1 (i := 4) rfl rfl
theorem pw_acp1 : (Jvm.Cond.native ({ cls := "java/lang/System", name := "arraycopy", desc := "(Ljava/lang/Object;ILjava/lang/Object;II)V" } : Jvm.MethodName)) ∈ pg_W := tb_4 (i := 12) rfl rfl
theorem pw_acp2 : (Jvm.Cond.static ({ cls := "java/lang/System", name := "arraycopy", desc := "(Ljava/lang/Object;ILjava/lang/Object;II)V" } : Jvm.MethodName)) ∈ pg_W := tb_4 (i := 11) rfl rfl
theorem pw_acp3 : (Jvm.Cond.initialized "java/lang/System") ∈ pg_W := tb_1 (i := 21) rfl rfl
theorem pw_obj1 : (Jvm.Cond.instanceMethod ({ cls := "java/lang/Object", name := "<init>", desc := "()V" } : Jvm.MethodName)) ∈ pg_W := tb_1 (i := 29) rfl rfl
theorem pw_obj2 : (Jvm.Cond.code ({ cls := "java/lang/Object", name := "<init>", desc := "()V" } : Jvm.MethodName) object_method_1_code (1 : Nat) (Option.none : Option Jvm.ClassFile.FieldType)) ∈ pg_W := tb_1 (i := 30) rfl rfl
theorem lk_RX0_19 : pg_lk RX0 19 yJ7_fill_53178 := Or.inl pw2_237
theorem lk_RX0_25 : pg_lk RX0 25 yX0_askOfPlace := Or.inl pw2_233
theorem lk_RX0_35 : pg_lk RX0 35 yX7_at := Or.inl pw5_89
theorem lk_RX0_41 : pg_lk RX0 41 yX0_askOfWording := Or.inl pw5_165
theorem lk_RX0_45 : pg_lk RX0 45 yX0_askOfCopy := Or.inl pw5_85
theorem lk_RX0_58 : pg_lk RX0 58 yX9_codeAt := Or.inl pw3_14
theorem lk_RX0_90 : pg_lk RX0 90 yX0_combined := Or.inl pw3_31
theorem lk_RX0_87 : pg_lk RX0 87 yX0_askedOf := Or.inl pw3_26
theorem lk_RX0_66 : pg_lk RX0 66 yX0_work := Or.inl pw3_22
theorem lk_RX0_52 : pg_lk RX0 52 yX9_length := Or.inl pw3_10
theorem lk_RX0_62 : pg_lk RX0 62 yX0_passes := Or.inl pw3_18
theorem lk_RX1_33 : pg_lk RX1 33 yX1_multiply := Or.inl pw5_8
theorem lk_RX2_11 : pg_lk RX2 11 yX1_init := Or.inr ⟨_, pw2_22⟩
theorem lk_RX2_69 : pg_lk RX2 69 yX2_commonFactor := Or.inl pw5_0
theorem lk_RX2_72 : pg_lk RX2 72 yX1_multiplyOften := Or.inl pw5_3
theorem lk_RX2_54 : pg_lk RX2 54 yX1_become := Or.inl pw4_230
theorem lk_RX2_65 : pg_lk RX2 65 yX2_weighFactor := Or.inl pw4_236
theorem lk_RX2_61 : pg_lk RX2 61 yX7_at := Or.inl pw4_235
theorem lk_RX2_77 : pg_lk RX2 77 yX1_takeFrom := Or.inl pw5_17
theorem lk_RX2_81 : pg_lk RX2 81 yX1_multiply := Or.inl pw5_23
theorem lk_RX2_50 : pg_lk RX2 50 yX1_isMoreThan := Or.inl pw5_24
theorem lk_RX2_31 : pg_lk RX2 31 yX2_weigh := Or.inl pw4_226
theorem lk_RX2_35 : pg_lk RX2 35 yX2_topThroughBottom := Or.inl pw5_12
theorem lk_RX2_45 : pg_lk RX2 45 yX7_size := Or.inl pw5_36
theorem lk_RX5_63 : pg_lk RX5 63 yX5_textOf := Or.inl pw3_2
theorem lk_RX5_67 : pg_lk RX5 67 yX7_size := Or.inl pw2_188
theorem lk_RX5_70 : pg_lk RX5 70 yX7_at := Or.inl pw2_189
theorem lk_RX5_82 : pg_lk RX5 82 yX5_placesOfKind := Or.inl pw5_96
theorem lk_RX11_265 : pg_lk RX11 265 yJ6_numberOfLeadingZeros_0f7a4 := Or.inl pw4_171
theorem lk_RX2_99 : pg_lk RX2 99 yX5_chaptersWritten := Or.inl pw5_92
theorem lk_RX2_103 : pg_lk RX2 103 yX11_lastBit := Or.inr ⟨_, pw5_100⟩
theorem lk_RX2_85 : pg_lk RX2 85 yX0_askOfChapter := Or.inl pw5_81
theorem lk_RX2_91 : pg_lk RX2 91 yX5_textUsed := Or.inl pw5_90
theorem lk_RX2_95 : pg_lk RX2 95 yX0_told := Or.inl pw5_91
theorem lk_RX2_117 : pg_lk RX2 117 yX1_isZero := Or.inl pw5_114
theorem lk_RX2_111 : pg_lk RX2 111 yX2_weighRead := Or.inl pw5_104
theorem lk_RX2_114 : pg_lk RX2 114 yX1_add := Or.inl pw5_109
theorem lk_RX3_92 : pg_lk RX3 92 yX8_size := Or.inl pw3_117
theorem lk_RX3_98 : pg_lk RX3 98 yX8_byteAt := Or.inl pw3_118
theorem lk_RX3_101 : pg_lk RX3 101 yX3_isLetter := Or.inl pw3_119
theorem lk_RX3_107 : pg_lk RX3 107 yX3_isDigit := Or.inl pw3_175
theorem lk_RX3_104 : pg_lk RX3 104 yX3_wordNumber := Or.inl pw3_122
theorem lk_RX3_32 : pg_lk RX3 32 yX3_advance := Or.inl pw3_113
theorem lk_RX3_35 : pg_lk RX3 35 yX3_fail := Or.inl pw3_179
theorem lk_RX3_57 : pg_lk RX3 57 yX3_emit := Or.inl pw3_187
theorem lk_RX3_70 : pg_lk RX3 70 yX3_readBoth := Or.inl pw3_219
theorem lk_RX3_73 : pg_lk RX3 73 yX3_emitJump := Or.inl pw3_227
theorem lk_RX3_64 : pg_lk RX3 64 yX3_patch := Or.inl pw3_211
theorem lk_RX3_77 : pg_lk RX3 77 yX3_readPlain := Or.inl pw3_223
theorem lk_RX3_61 : pg_lk RX3 61 yX3_readSum := Or.inl pw3_191
theorem lk_RX3_80 : pg_lk RX3 80 yX3_openBracket := Or.inl pw3_203
theorem lk_RX3_67 : pg_lk RX3 67 yX3_readTest := Or.inl pw3_215
theorem lk_RX3_50 : pg_lk RX3 50 yX3_takeSign := Or.inl pw3_207
theorem lk_RX3_83 : pg_lk RX3 83 yX3_readTerm := Or.inl pw3_195
theorem lk_RX3_86 : pg_lk RX3 86 yX3_readPart := Or.inl pw3_199
theorem lk_RX9_16 : pg_lk RX9 16 yJ7_copyOf_59c91 := Or.inl pw3_239
theorem lk_RX3_39 : pg_lk RX3 39 yX3_readClause := Or.inl pw3_183
theorem lk_RX3_47 : pg_lk RX3 47 yX9_init := Or.inl pw3_233
theorem lk_RX4_84 : pg_lk RX4 84 yX4_find := Or.inl pw2_219
theorem lk_RX4_40 : pg_lk RX4 40 yJ7_fill_53178 := Or.inl pw2_210
theorem lk_RX4_52 : pg_lk RX4 52 yX7_size := Or.inl pw2_213
theorem lk_RX4_57 : pg_lk RX4 57 yX7_at := Or.inl pw2_214
theorem lk_RX4_61 : pg_lk RX4 61 yX4_addHolder := Or.inl pw2_215
theorem lk_RX4_65 : pg_lk RX4 65 yJ6_bitCount_0f7a4 := Or.inl pw2_223
theorem lk_RX4_71 : pg_lk RX4 71 yX0_askOfWording := Or.inl pw2_229
theorem lk_RX4_76 : pg_lk RX4 76 yX5_textUsed := Or.inl pw2_238
theorem lk_RX4_80 : pg_lk RX4 80 yX0_told := Or.inl pw3_6
theorem lk_RX4_87 : pg_lk RX4 87 yX4_holdersOf := Or.inl pw3_48
theorem lk_RX5_86 : pg_lk RX5 86 yX5_metDuring := Or.inl pw4_56
theorem lk_RX5_90 : pg_lk RX5 90 yX5_allCopies := Or.inl pw4_60
theorem lk_RX4_93 : pg_lk RX4 93 yX5_companions := Or.inl pw4_165
theorem lk_RX4_96 : pg_lk RX4 96 yX4_costFrom := Or.inl pw4_166
theorem lk_RX4_100 : pg_lk RX4 100 yX4_ownCost := Or.inl pw4_178
theorem lk_RX4_119 : pg_lk RX4 119 yX4_agreement := Or.inl pw4_201
theorem lk_RX4_109 : pg_lk RX4 109 yX4_findNear := Or.inl pw4_197
theorem lk_RX4_113 : pg_lk RX4 113 yX4_spread := Or.inl pw4_202
theorem lk_RX7_35 : pg_lk RX7 35 yX7_holds := Or.inl pw1_70
theorem lk_RX7_31 : pg_lk RX7 31 yX7_put := Or.inl pw1_66
theorem lk_RX5_11 : pg_lk RX5 11 yX7_init := Or.inl pw1_39
theorem lk_RX5_46 : pg_lk RX5 46 yX7_open := Or.inl pw1_62
theorem lk_RX5_50 : pg_lk RX5 50 yX7_takeFrom := Or.inl pw6_6
theorem lk_RX5_74 : pg_lk RX5 74 yX7_holds := Or.inl pw2_183
theorem lk_RX5_78 : pg_lk RX5 78 yX7_put := Or.inl pw2_197
theorem lk_RX5_93 : pg_lk RX5 93 yX5_handsIn := Or.inl pw5_53
theorem lk_RX6_38 : pg_lk RX6 38 yX6_exemplarOf := Or.inl pw4_143
theorem lk_RX6_61 : pg_lk RX6 61 yJ7_fill_53178 := Or.inl pw4_92
theorem lk_RX6_73 : pg_lk RX6 73 yX7_size := Or.inl pw4_93
theorem lk_RX6_85 : pg_lk RX6 85 yX5_companions := Or.inl pw4_95
theorem lk_RX6_88 : pg_lk RX6 88 yX4_ownCost := Or.inl pw4_96
theorem lk_RX6_94 : pg_lk RX6 94 yX4_costFrom := Or.inl pw4_97
theorem lk_RX6_110 : pg_lk RX6 110 yJ7_fill_d0a16 := Or.inl pw4_119
theorem lk_RX6_103 : pg_lk RX6 103 yX6_findGroups := Or.inl pw4_111
theorem lk_RX6_106 : pg_lk RX6 106 yX6_mergeGroups := Or.inl pw4_115
theorem lk_RX6_98 : pg_lk RX6 98 yX6_nearestTo := Or.inl pw4_106
theorem lk_RX6_42 : pg_lk RX6 42 yX6_findCosts := Or.inl pw4_88
theorem lk_RX6_57 : pg_lk RX6 57 yX6_leastSum := Or.inl pw4_102
theorem lk_RX10_25 : pg_lk RX10 25 yX10_hasCopy := Or.inl pw5_200
theorem lk_RX10_29 : pg_lk RX10 29 yX10_notesOf := Or.inl pw5_196
theorem lk_RX10_33 : pg_lk RX10 33 yX10_hasNote := Or.inl pw5_234
theorem lk_RX10_59 : pg_lk RX10 59 yX6_exemplarOf := Or.inl pw5_188
theorem lk_RX10_72 : pg_lk RX10 72 yX0_askOfChapter := Or.inl pw5_193
theorem lk_RX10_78 : pg_lk RX10 78 yX5_textUsed := Or.inl pw5_194
theorem lk_RX10_82 : pg_lk RX10 82 yX0_told := Or.inl pw5_195
theorem lk_RX10_86 : pg_lk RX10 86 yX10_drawOfHundred := Or.inl pw5_204
theorem lk_RX10_89 : pg_lk RX10 89 yX10_put := Or.inl pw5_212
theorem lk_RX10_42 : pg_lk RX10 42 yX7_size := Or.inl pw5_183
theorem lk_RX10_55 : pg_lk RX10 55 yX10_nextCopy := Or.inl pw5_184
theorem lk_RX10_64 : pg_lk RX10 64 yX10_takeNotes := Or.inl pw5_189
theorem lk_RX10_68 : pg_lk RX10 68 yX10_writeNotes := Or.inl pw5_216
theorem lk_RX11_9 : pg_lk RX11 9 yX5_init := Or.inl pw1_33
theorem lk_RX11_26 : pg_lk RX11 26 yX8_init := Or.inr ⟨_, pw1_122⟩
theorem lk_RX11_33 : pg_lk RX11 33 yX3_init := Or.inl pw1_137
theorem lk_RX11_42 : pg_lk RX11 42 yX0_init := Or.inr ⟨_, pw1_171⟩
theorem lk_RX11_49 : pg_lk RX11 49 yX4_init := Or.inr ⟨_, pw1_188⟩
theorem lk_RX11_56 : pg_lk RX11 56 yX6_init := Or.inr ⟨_, pw1_222⟩
theorem lk_RX11_63 : pg_lk RX11 63 yX2_init := Or.inr ⟨_, pw2_16⟩
theorem lk_RX11_70 : pg_lk RX11 70 yX10_init := Or.inr ⟨_, pw2_51⟩
theorem lk_RX11_83 : pg_lk RX11 83 yX11_within := Or.inl pw2_127
theorem lk_RX11_112 : pg_lk RX11 112 yX11_accept := Or.inl pw2_140
theorem lk_RX11_95 : pg_lk RX11 95 yX7_open := Or.inl pw2_134
theorem lk_RX11_101 : pg_lk RX11 101 yX7_put := Or.inl pw2_135
theorem lk_RX11_105 : pg_lk RX11 105 yX11_changed := Or.inl pw2_136
theorem lk_RX11_87 : pg_lk RX11 87 yX11_refuse := Or.inl pw2_130
theorem lk_RX11_108 : pg_lk RX11 108 yX7_holds := Or.inl pw2_148
theorem lk_RX11_115 : pg_lk RX11 115 yX11_areYears := Or.inl pw2_153
theorem lk_RX11_122 : pg_lk RX11 122 yX7_size := Or.inl pw2_156
theorem lk_RX11_131 : pg_lk RX11 131 yX11_isNote := Or.inl pw2_176
theorem lk_RX11_134 : pg_lk RX11 134 yX5_isHandOrUnknown := Or.inl pw2_179
theorem lk_RX11_137 : pg_lk RX11 137 yX5_hasNote := Or.inl pw2_184
theorem lk_RX11_141 : pg_lk RX11 141 yX5_addNote := Or.inl pw2_193
theorem lk_RX11_369 : pg_lk RX11 369 yX4_gather := Or.inl pw2_206
theorem lk_RX11_156 : pg_lk RX11 156 yX7_at := Or.inl pw3_52
theorem lk_RX11_148 : pg_lk RX11 148 yX11_freshReadings := Or.inl pw2_202
theorem lk_RX11_152 : pg_lk RX11 152 yX4_sharedOf := Or.inl pw3_44
theorem lk_RX11_169 : pg_lk RX11 169 yX8_hasRoomFor := Or.inl pw3_65
theorem lk_RX11_172 : pg_lk RX11 172 yX8_putNumber := Or.inl pw3_69
theorem lk_RX11_176 : pg_lk RX11 176 yX8_size := Or.inl pw3_73
theorem lk_RX11_177 : pg_lk RX11 177 yX8_shorten := Or.inl pw3_81
theorem lk_RX11_377 : pg_lk RX11 377 yX8_byteAt := Or.inl pw3_97
theorem lk_RX11_180 : pg_lk RX11 180 yX11_takeFromRow := Or.inl pw3_93
theorem lk_RX11_189 : pg_lk RX11 189 yX3_compile := Or.inl pw3_109
theorem lk_RX11_193 : pg_lk RX11 193 yX3_faultPlace := Or.inl pw4_18
theorem lk_RX11_196 : pg_lk RX11 196 yX5_addText := Or.inl pw4_22
theorem lk_RX11_200 : pg_lk RX11 200 yX5_textOf := Or.inl pw4_34
theorem lk_RX11_207 : pg_lk RX11 207 yX4_holdersOf := Or.inl pw4_39
theorem lk_RX11_210 : pg_lk RX11 210 yJ6_bitCount_0f7a4 := Or.inl pw4_40
theorem lk_RX11_215 : pg_lk RX11 215 yX0_askOfWording := Or.inl pw4_41
theorem lk_RX11_219 : pg_lk RX11 219 yX5_textUsed := Or.inl pw4_42
theorem lk_RX11_222 : pg_lk RX11 222 yX0_told := Or.inl pw4_43
theorem lk_RX11_226 : pg_lk RX11 226 yX11_areTwoCopies := Or.inl pw4_48
theorem lk_RX11_229 : pg_lk RX11 229 yX5_companions := Or.inl pw4_52
theorem lk_RX11_235 : pg_lk RX11 235 yX4_costFrom := Or.inl pw4_72
theorem lk_RX11_232 : pg_lk RX11 232 yX4_ownCost := Or.inl pw4_68
theorem lk_RX11_373 : pg_lk RX11 373 yX6_grow := Or.inl pw4_84
theorem lk_RX11_239 : pg_lk RX11 239 yX11_freshStemma := Or.inl pw4_80
theorem lk_RX11_243 : pg_lk RX11 243 yX6_leastCost := Or.inl pw4_123
theorem lk_RX11_246 : pg_lk RX11 246 yX6_exemplarOf := Or.inl pw4_131
theorem lk_RX11_249 : pg_lk RX11 249 yX6_isSure := Or.inl pw4_139
theorem lk_RX11_252 : pg_lk RX11 252 yX6_stepsFromNobody := Or.inl pw4_148
theorem lk_RX11_255 : pg_lk RX11 255 yX6_comesOf := Or.inl pw4_152
theorem lk_RX11_259 : pg_lk RX11 259 yX4_bestPair := Or.inl pw4_161
theorem lk_RX11_268 : pg_lk RX11 268 yX4_bestSingleCost := Or.inl pw4_174
theorem lk_RX11_262 : pg_lk RX11 262 yJ6_numberOfTrailingZeros_0f7a4 := Or.inl pw4_167
theorem lk_RX11_271 : pg_lk RX11 271 yX4_agreement := Or.inl pw4_184
theorem lk_RX11_274 : pg_lk RX11 274 yX5_allCopies := Or.inl pw4_192
theorem lk_RX11_277 : pg_lk RX11 277 yX4_familiesOf := Or.inl pw4_193
theorem lk_RX11_280 : pg_lk RX11 280 yX4_familyOf := Or.inl pw4_210
theorem lk_RX11_283 : pg_lk RX11 283 yX2_timesAsLikely := Or.inl pw4_222
theorem lk_RX11_287 : pg_lk RX11 287 yX2_likeliestHand := Or.inl pw5_32
theorem lk_RX11_290 : pg_lk RX11 290 yX5_copiesWithHand := Or.inl pw5_41
theorem lk_RX11_293 : pg_lk RX11 293 yX5_firstYear := Or.inl pw5_49
theorem lk_RX11_296 : pg_lk RX11 296 yX5_lastYear := Or.inl pw5_59
theorem lk_RX11_303 : pg_lk RX11 303 yX11_lastYearByTree := Or.inl pw5_68
theorem lk_RX11_299 : pg_lk RX11 299 yX11_firstYearByTree := Or.inl pw5_63
theorem lk_RX11_306 : pg_lk RX11 306 yX2_chanceRead := Or.inl pw5_77
theorem lk_RX11_310 : pg_lk RX11 310 yX5_chaptersWritten := Or.inl pw5_123
theorem lk_RX11_313 : pg_lk RX11 313 yX11_lastBit := Or.inl pw5_124
theorem lk_RX11_388 : pg_lk RX11 388 yX0_askOfPlace := Or.inl pw5_141
theorem lk_RX11_328 : pg_lk RX11 328 yX0_holdsIn := Or.inl pw5_142
theorem lk_RX11_391 : pg_lk RX11 391 yX5_placesOfKind := Or.inl pw5_150
theorem lk_RX11_395 : pg_lk RX11 395 yJ13_bitCount_95d88 := Or.inl pw5_151
theorem lk_RX11_316 : pg_lk RX11 316 yX11_placesStruck := Or.inl pw5_137
theorem lk_RX11_320 : pg_lk RX11 320 yX11_toldOfCensor := Or.inl pw5_146
theorem lk_RX11_324 : pg_lk RX11 324 yX0_askOfNote := Or.inl pw5_161
theorem lk_RX11_332 : pg_lk RX11 332 yX5_copiesLookedAt := Or.inl pw5_170
theorem lk_RX11_336 : pg_lk RX11 336 yX10_draw := Or.inl pw5_179
theorem lk_RX11_340 : pg_lk RX11 340 yX10_hasCopy := Or.inl pw5_224
theorem lk_RX11_349 : pg_lk RX11 349 yX10_holdersOfFirst := Or.inl pw5_230
theorem lk_RX11_346 : pg_lk RX11 346 yX10_notesCopied := Or.inl pw5_226
theorem lk_RX11_343 : pg_lk RX11 343 yX10_notesOf := Or.inl pw5_225
theorem lk_RX11_352 : pg_lk RX11 352 yX5_takeFrom := Or.inl pw6_2
theorem lk_RX11_356 : pg_lk RX11 356 yX5_notesWritten := Or.inl pw6_21
theorem lk_RX12_113 : pg_lk RX12 113 yX12_lies := Or.inl pw6_178
theorem lk_RX12_117 : pg_lk RX12 117 yX12_refuses := Or.inl pw6_181
theorem lk_RX12_121 : pg_lk RX12 121 yX12_good := Or.inl pw6_185
theorem lk_RX12_124 : pg_lk RX12 124 yX12_copies := Or.inl pw6_197
theorem lk_RX12_128 : pg_lk RX12 128 yX12_isCopy := Or.inl pw6_205
theorem lk_RX12_132 : pg_lk RX12 132 yX12_replaces := Or.inl pw6_209
theorem lk_RX12_136 : pg_lk RX12 136 yX12_areYears := Or.inl pw6_217
theorem lk_RX12_140 : pg_lk RX12 140 yX12_isHand := Or.inl pw6_228
theorem lk_RX12_143 : pg_lk RX12 143 yX12_noteOf := Or.inl pw7_8
theorem lk_RX12_149 : pg_lk RX12 149 yX12_hasKind := Or.inl pw7_12
theorem lk_RX12_146 : pg_lk RX12 146 yX12_has := Or.inl pw7_4
theorem lk_RX12_152 : pg_lk RX12 152 yX12_hasIt := Or.inl pw7_0
theorem lk_RX12_156 : pg_lk RX12 156 yX12_notes := Or.inl pw7_16
theorem lk_RX12_160 : pg_lk RX12 160 yX12_sharedBy := Or.inl pw7_24
theorem lk_RX12_172 : pg_lk RX12 172 yX12_isSmall := Or.inl pw7_60
theorem lk_RX12_175 : pg_lk RX12 175 yX12_isDigit := Or.inl pw7_63
theorem lk_RX12_178 : pg_lk RX12 178 yX12_wordOf := Or.inl pw7_66
theorem lk_RX12_185 : pg_lk RX12 185 yX12_fine := Or.inl pw7_79
theorem lk_RX12_192 : pg_lk RX12 192 yX12_takes := Or.inl pw7_75
theorem lk_RX12_195 : pg_lk RX12 195 yX12_faults := Or.inl pw7_98
theorem lk_RX12_211 : pg_lk RX12 211 yX12_readBoth := Or.inl pw7_114
theorem lk_RX12_214 : pg_lk RX12 214 yX12_readPlain := Or.inl pw7_118
theorem lk_RX12_217 : pg_lk RX12 217 yX12_sign := Or.inl pw7_95
theorem lk_RX12_201 : pg_lk RX12 201 yX12_readSum := Or.inl pw7_83
theorem lk_RX12_205 : pg_lk RX12 205 yX12_must := Or.inl pw7_102
theorem lk_RX12_208 : pg_lk RX12 208 yX12_readTest := Or.inl pw7_110
theorem lk_RX12_221 : pg_lk RX12 221 yX12_readTerm := Or.inl pw7_87
theorem lk_RX12_224 : pg_lk RX12 224 yX12_readPart := Or.inl pw7_91
theorem lk_RX12_227 : pg_lk RX12 227 yX12_leaf := Or.inl pw7_106
theorem lk_RX12_230 : pg_lk RX12 230 yX12_splits := Or.inl pw7_56
theorem lk_RX12_233 : pg_lk RX12 233 yX12_readClause := Or.inl pw7_71
theorem lk_RX12_236 : pg_lk RX12 236 yX12_reads := Or.inl pw7_52
theorem lk_RX12_239 : pg_lk RX12 239 yX12_isText := Or.inl pw7_130
theorem lk_RX12_248 : pg_lk RX12 248 yX12_codeAt := Or.inl pw7_150
theorem lk_RX12_259 : pg_lk RX12 259 yX12_termOf := Or.inl pw7_158
theorem lk_RX12_263 : pg_lk RX12 263 yX12_bounded := Or.inl pw7_170
theorem lk_RX12_267 : pg_lk RX12 267 yX12_partOf := Or.inl pw7_162
theorem lk_RX12_270 : pg_lk RX12 270 yX12_passes := Or.inl pw7_166
theorem lk_RX12_273 : pg_lk RX12 273 yX12_sumOf := Or.inl pw7_154
theorem lk_RX12_276 : pg_lk RX12 276 yX12_bothOf := Or.inl pw7_180
theorem lk_RX12_280 : pg_lk RX12 280 yX12_plainOf := Or.inl pw7_184
theorem lk_RX12_283 : pg_lk RX12 283 yX12_positiveOf := Or.inl pw7_188
theorem lk_RX12_286 : pg_lk RX12 286 yX12_testOf := Or.inl pw7_176
theorem lk_RX12_296 : pg_lk RX12 296 yX12_bare := Or.inl pw7_142
theorem lk_RX12_299 : pg_lk RX12 299 yX12_copyOf := Or.inl pw8_133
theorem lk_RX12_302 : pg_lk RX12 302 yX12_asks := Or.inl pw7_146
theorem lk_RX12_308 : pg_lk RX12 308 yX12_weightOf := Or.inl pw7_138
theorem lk_RX12_311 : pg_lk RX12 311 yX12_stayOf := Or.inl pw7_205
theorem lk_RX12_314 : pg_lk RX12 314 yX12_hasStays := Or.inl pw7_201
theorem lk_RX12_317 : pg_lk RX12 317 yX12_canMeet := Or.inl pw7_197
theorem lk_RX12_320 : pg_lk RX12 320 yX12_term := Or.inl pw7_221
theorem lk_RX12_323 : pg_lk RX12 323 yX12_weighs := Or.inl pw7_213
theorem lk_RX12_329 : pg_lk RX12 329 yX12_costFrom := Or.inl pw7_225
theorem lk_RX12_326 : pg_lk RX12 326 yX12_costAlone := Or.inl pw7_217
theorem lk_RX12_334 : pg_lk RX12 334 yX12_cheapestOf := Or.inl pw8_2
theorem lk_RX12_337 : pg_lk RX12 337 yX12_laysCosts := Or.inl pw7_233
theorem lk_RX12_340 : pg_lk RX12 340 yX12_cheapest := Or.inl pw7_237
theorem lk_RX12_346 : pg_lk RX12 346 yX12_grows := Or.inl pw8_10
theorem lk_RX12_349 : pg_lk RX12 349 yX12_stepsOf := Or.inl pw8_22
theorem lk_RX12_352 : pg_lk RX12 352 yX12_comesOf := Or.inl pw8_26
theorem lk_RX12_356 : pg_lk RX12 356 yX12_agreeOf := Or.inl pw8_39
theorem lk_RX12_359 : pg_lk RX12 359 yX12_joinsAll := Or.inl pw8_47
theorem lk_RX12_362 : pg_lk RX12 362 yX12_familiesBut := Or.inl pw8_51
theorem lk_RX12_367 : pg_lk RX12 367 yX12_makes := Or.inl pw8_78
theorem lk_RX12_371 : pg_lk RX12 371 yX12_order := Or.inl pw8_90
theorem lk_RX12_375 : pg_lk RX12 375 yX12_handOf := Or.inl pw8_74
theorem lk_RX12_378 : pg_lk RX12 378 yX12_be := Or.inl pw8_71
theorem lk_RX12_382 : pg_lk RX12 382 yX12_formsOf := Or.inl pw8_82
theorem lk_RX12_385 : pg_lk RX12 385 yX12_likens := Or.inl pw8_67
theorem lk_RX12_389 : pg_lk RX12 389 yX12_quotient := Or.inl pw8_86
theorem lk_RX12_392 : pg_lk RX12 392 yX12_isIn := Or.inl pw8_101
theorem lk_RX12_398 : pg_lk RX12 398 yX12_toOf := Or.inl pw8_113
theorem lk_RX12_395 : pg_lk RX12 395 yX12_fromOf := Or.inl pw8_109
theorem lk_RX12_401 : pg_lk RX12 401 yX12_isNoted := Or.inl pw8_121
theorem lk_RX12_404 : pg_lk RX12 404 yX12_asksCopy := Or.inl pw8_129
theorem lk_RX12_407 : pg_lk RX12 407 yX12_hundredth := Or.inl pw8_137
theorem lk_RX12_410 : pg_lk RX12 410 yX12_chanceOf := Or.inl pw8_141
theorem lk_RX12_413 : pg_lk RX12 413 yX12_adds := Or.inl pw8_145
theorem lk_RX12_417 : pg_lk RX12 417 yX12_isOn := Or.inl pw8_152
theorem lk_RX12_420 : pg_lk RX12 420 yX12_isStruck := Or.inl pw8_164
theorem lk_RX12_432 : pg_lk RX12 432 yX12_draws := Or.inl pw8_184
theorem lk_RX12_435 : pg_lk RX12 435 yX12_draw := Or.inl pw8_180
theorem lk_RX12_438 : pg_lk RX12 438 yX12_hasWorld := Or.inl pw8_195
theorem lk_RL_9 : pg_lk RL 9 yX11_init := Or.inl pw1_25
theorem lk_RL_12 : pg_lk RL 12 yX12_init := Or.inl pw6_31
theorem lk_RL_13 : pg_lk RL 13 yX11_copy := Or.inl pw2_123
theorem lk_RL_17 : pg_lk RL 17 yX12_copy := Or.inl pw6_193
theorem lk_RL_18 : pg_lk RL 18 yX11_look := Or.inl pw2_144
theorem lk_RL_21 : pg_lk RL 21 yX12_look := Or.inl pw6_201
theorem lk_RL_22 : pg_lk RL 22 yX11_stay := Or.inl pw2_149
theorem lk_RL_26 : pg_lk RL 26 yX12_stay := Or.inl pw6_213
theorem lk_RL_27 : pg_lk RL 27 yX11_hand := Or.inl pw2_160
theorem lk_RL_30 : pg_lk RL 30 yX12_hand := Or.inl pw6_220
theorem lk_RL_31 : pg_lk RL 31 yX11_form := Or.inl pw2_164
theorem lk_RL_35 : pg_lk RL 35 yX12_form := Or.inl pw6_224
theorem lk_RL_36 : pg_lk RL 36 yX11_sample := Or.inl pw2_168
theorem lk_RL_39 : pg_lk RL 39 yX12_sample := Or.inl pw6_232
theorem lk_RL_40 : pg_lk RL 40 yX11_note := Or.inl pw2_172
theorem lk_RL_44 : pg_lk RL 44 yX12_note := Or.inl pw6_236
theorem lk_RL_45 : pg_lk RL 45 yX11_of := Or.inl pw2_198
theorem lk_RL_48 : pg_lk RL 48 yX12_of := Or.inl pw7_20
theorem lk_RL_49 : pg_lk RL 49 yX11_terms := Or.inl pw3_53
theorem lk_RL_52 : pg_lk RL 52 yX12_terms := Or.inl pw7_28
theorem lk_RL_53 : pg_lk RL 53 yX11_feed := Or.inl pw3_61
theorem lk_RL_56 : pg_lk RL 56 yX12_feed := Or.inl pw7_40
theorem lk_RL_57 : pg_lk RL 57 yX11_end := Or.inl pw3_77
theorem lk_RL_61 : pg_lk RL 61 yX12_end := Or.inl pw7_44
theorem lk_RL_62 : pg_lk RL 62 yX11_row := Or.inl pw3_89
theorem lk_RL_65 : pg_lk RL 65 yX12_row := Or.inl pw7_32
theorem lk_RL_66 : pg_lk RL 66 yX11_trimmed := Or.inl pw3_101
theorem lk_RL_70 : pg_lk RL 70 yX12_trimmed := Or.inl pw7_36
theorem lk_RL_71 : pg_lk RL 71 yX11_text := Or.inl pw3_105
theorem lk_RL_74 : pg_lk RL 74 yX12_text := Or.inl pw7_48
theorem lk_RL_75 : pg_lk RL 75 yX11_fault := Or.inl pw4_26
theorem lk_RL_78 : pg_lk RL 78 yX12_fault := Or.inl pw7_122
theorem lk_RL_79 : pg_lk RL 79 yX11_use := Or.inl pw4_30
theorem lk_RL_82 : pg_lk RL 82 yX12_use := Or.inl pw7_126
theorem lk_RL_83 : pg_lk RL 83 yX11_weight := Or.inl pw4_35
theorem lk_RL_86 : pg_lk RL 86 yX12_weight := Or.inl pw7_134
theorem lk_RL_87 : pg_lk RL 87 yX11_may := Or.inl pw4_44
theorem lk_RL_90 : pg_lk RL 90 yX12_may := Or.inl pw7_193
theorem lk_RL_91 : pg_lk RL 91 yX11_cost := Or.inl pw4_64
theorem lk_RL_94 : pg_lk RL 94 yX12_cost := Or.inl pw7_209
theorem lk_RL_95 : pg_lk RL 95 yX11_tree := Or.inl pw4_76
theorem lk_RL_98 : pg_lk RL 98 yX12_tree := Or.inl pw7_229
theorem lk_RL_99 : pg_lk RL 99 yX11_whose := Or.inl pw4_127
theorem lk_RL_102 : pg_lk RL 102 yX12_whose := Or.inl pw8_6
theorem lk_RL_103 : pg_lk RL 103 yX11_sure := Or.inl pw4_135
theorem lk_RL_106 : pg_lk RL 106 yX12_sure := Or.inl pw8_14
theorem lk_RL_107 : pg_lk RL 107 yX11_come := Or.inl pw4_144
theorem lk_RL_110 : pg_lk RL 110 yX12_come := Or.inl pw8_18
theorem lk_RL_111 : pg_lk RL 111 yX11_net := Or.inl pw4_156
theorem lk_RL_114 : pg_lk RL 114 yX12_net := Or.inl pw8_30
theorem lk_RL_115 : pg_lk RL 115 yX11_agree := Or.inl pw4_180
theorem lk_RL_118 : pg_lk RL 118 yX12_agree := Or.inl pw8_35
theorem lk_RL_119 : pg_lk RL 119 yX11_families := Or.inl pw4_188
theorem lk_RL_122 : pg_lk RL 122 yX12_families := Or.inl pw8_43
theorem lk_RL_123 : pg_lk RL 123 yX11_family := Or.inl pw4_206
theorem lk_RL_126 : pg_lk RL 126 yX12_family := Or.inl pw8_55
theorem lk_RL_127 : pg_lk RL 127 yX11_joins := Or.inl pw4_214
theorem lk_RL_130 : pg_lk RL 130 yX12_joins := Or.inl pw8_59
theorem lk_RL_131 : pg_lk RL 131 yX11_times := Or.inl pw4_218
theorem lk_RL_134 : pg_lk RL 134 yX12_times := Or.inl pw8_63
theorem lk_RL_135 : pg_lk RL 135 yX11_written := Or.inl pw5_28
theorem lk_RL_138 : pg_lk RL 138 yX12_written := Or.inl pw8_93
theorem lk_RL_139 : pg_lk RL 139 yX11_towns := Or.inl pw5_37
theorem lk_RL_142 : pg_lk RL 142 yX12_towns := Or.inl pw8_97
theorem lk_RL_143 : pg_lk RL 143 yX11_dates := Or.inl pw5_45
theorem lk_RL_146 : pg_lk RL 146 yX12_dates := Or.inl pw8_105
theorem lk_RL_147 : pg_lk RL 147 yX11_read := Or.inl pw5_73
theorem lk_RL_150 : pg_lk RL 150 yX12_read := Or.inl pw8_125
theorem lk_RL_151 : pg_lk RL 151 yX11_stops := Or.inl pw5_119
theorem lk_RL_154 : pg_lk RL 154 yX12_stops := Or.inl pw8_117
theorem lk_RL_155 : pg_lk RL 155 yX11_many := Or.inl pw5_125
theorem lk_RL_158 : pg_lk RL 158 yX12_many := Or.inl pw8_148
theorem lk_RL_159 : pg_lk RL 159 yX11_chao := Or.inl pw5_129
theorem lk_RL_162 : pg_lk RL 162 yX12_chao := Or.inl pw8_156
theorem lk_RL_163 : pg_lk RL 163 yX11_censor := Or.inl pw5_133
theorem lk_RL_166 : pg_lk RL 166 yX12_censor := Or.inl pw8_160
theorem lk_RL_167 : pg_lk RL 167 yX11_late := Or.inl pw5_157
theorem lk_RL_170 : pg_lk RL 170 yX12_late := Or.inl pw8_168
theorem lk_RL_171 : pg_lk RL 171 yX11_next := Or.inl pw5_166
theorem lk_RL_174 : pg_lk RL 174 yX12_next := Or.inl pw8_172
theorem lk_RL_175 : pg_lk RL 175 yX11_run := Or.inl pw5_174
theorem lk_RL_178 : pg_lk RL 178 yX12_run := Or.inl pw8_176
theorem lk_RL_179 : pg_lk RL 179 yX11_world := Or.inl pw5_220
theorem lk_RL_182 : pg_lk RL 182 yX12_world := Or.inl pw8_191
theorem lk_RL_183 : pg_lk RL 183 yX11_image := Or.inl pw5_238
theorem lk_RL_186 : pg_lk RL 186 yX12_image := Or.inl pw6_174
theorem lk_RL_187 : pg_lk RL 187 yX11_back := Or.inl pw6_13
theorem lk_RL_190 : pg_lk RL 190 yX12_back := Or.inl pw6_189
theorem lk_RL_191 : pg_lk RL 191 yX11_count := Or.inl pw6_17
theorem lk_RL_194 : pg_lk RL 194 yX12_count := Or.inl pw8_199
theorem lk_RL_195 : pg_lk RL 195 yX11_status := Or.inl pw6_25
theorem lk_RL_198 : pg_lk RL 198 yX12_status := Or.inl pw8_203
theorem fl_RX0_9 : pg_FL RX0 9 0 0 (tyX0 0) true := ⟨by decide, rfl, (RX0, TX0, 3), rfl, by decide, rfl, Or.inl pw1_175⟩
theorem fl_RX0_15 : pg_FL RX0 15 0 1 (tyX0 1) true := ⟨by decide, rfl, (RX0, TX0, 3), rfl, by decide, rfl, Or.inl pw1_176⟩
theorem fl_RX7_28 : pg_FL RX7 28 7 3 (tyX7 3) false := ⟨by decide, rfl, (RX7, TX7, 4), rfl, by decide, rfl, Or.inl pw1_49⟩
theorem fl_RX7_21 : pg_FL RX7 21 7 1 (tyX7 1) true := ⟨by decide, rfl, (RX7, TX7, 4), rfl, by decide, rfl, Or.inl pw1_47⟩
theorem fl_RX7_24 : pg_FL RX7 24 7 0 (tyX7 0) true := ⟨by decide, rfl, (RX7, TX7, 4), rfl, by decide, rfl, Or.inl pw1_46⟩
theorem fl_RX0_49 : pg_FL RX0 49 5 0 (tyX5 0) true := ⟨by decide, rfl, (RX5, TX5, 9), rfl, by decide, rfl, Or.inl pw1_76⟩
theorem fl_RX0_29 : pg_FL RX0 29 5 4 (tyX5 4) true := ⟨by decide, rfl, (RX5, TX5, 9), rfl, by decide, rfl, Or.inl pw1_90⟩
theorem fl_RX9_22 : pg_FL RX9 22 9 0 (tyX9 0) true := ⟨by decide, rfl, (RX9, TX9, 1), rfl, by decide, rfl, Or.inl pw4_13⟩
theorem fl_RX0_70 : pg_FL RX0 70 0 2 (tyX0 2) false := ⟨by decide, rfl, (RX0, TX0, 3), rfl, by decide, rfl, Or.inl pw1_177⟩
theorem fl_RX1_9 : pg_FL RX1 9 1 0 (tyX1 0) true := ⟨by decide, rfl, (RX1, TX1, 2), rfl, by decide, rfl, Or.inl pw2_26⟩
theorem fl_RX1_13 : pg_FL RX1 13 1 1 (tyX1 1) false := ⟨by decide, rfl, (RX1, TX1, 2), rfl, by decide, rfl, Or.inl pw2_27⟩
theorem fl_RX2_12 : pg_FL RX2 12 2 0 (tyX2 0) true := ⟨by decide, rfl, (RX2, TX2, 5), rfl, by decide, rfl, Or.inl pw2_33⟩
theorem fl_RX2_18 : pg_FL RX2 18 2 1 (tyX2 1) true := ⟨by decide, rfl, (RX2, TX2, 5), rfl, by decide, rfl, Or.inl pw2_34⟩
theorem fl_RX2_21 : pg_FL RX2 21 2 2 (tyX2 2) true := ⟨by decide, rfl, (RX2, TX2, 5), rfl, by decide, rfl, Or.inl pw2_35⟩
theorem fl_RX2_24 : pg_FL RX2 24 2 3 (tyX2 3) true := ⟨by decide, rfl, (RX2, TX2, 5), rfl, by decide, rfl, Or.inl pw2_36⟩
theorem fl_RX2_28 : pg_FL RX2 28 2 4 (tyX2 4) true := ⟨by decide, rfl, (RX2, TX2, 5), rfl, by decide, rfl, Or.inl pw2_37⟩
theorem fl_RX2_58 : pg_FL RX2 58 5 3 (tyX5 3) true := ⟨by decide, rfl, (RX5, TX5, 9), rfl, by decide, rfl, Or.inl pw1_86⟩
theorem fl_RX2_39 : pg_FL RX2 39 5 2 (tyX5 2) true := ⟨by decide, rfl, (RX5, TX5, 9), rfl, by decide, rfl, Or.inl pw1_83⟩
theorem fl_RX5_60 : pg_FL RX5 60 5 7 (tyX5 7) false := ⟨by decide, rfl, (RX5, TX5, 9), rfl, by decide, rfl, Or.inl pw1_96⟩
theorem fl_RX5_38 : pg_FL RX5 38 5 6 (tyX5 6) true := ⟨by decide, rfl, (RX5, TX5, 9), rfl, by decide, rfl, Or.inl pw1_95⟩
theorem fl_RX5_42 : pg_FL RX5 42 5 8 (tyX5 8) false := ⟨by decide, rfl, (RX5, TX5, 9), rfl, by decide, rfl, Or.inl pw1_98⟩
theorem fl_RX5_29 : pg_FL RX5 29 5 4 (tyX5 4) true := ⟨by decide, rfl, (RX5, TX5, 9), rfl, by decide, rfl, Or.inl pw1_88⟩
theorem fl_RX3_11 : pg_FL RX3 11 3 0 (tyX3 0) true := ⟨by decide, rfl, (RX3, TX3, 9), rfl, by decide, rfl, Or.inl pw1_141⟩
theorem fl_RX3_15 : pg_FL RX3 15 3 8 (tyX3 8) false := ⟨by decide, rfl, (RX3, TX3, 9), rfl, by decide, rfl, Or.inl pw1_149⟩
theorem fl_RX3_19 : pg_FL RX3 19 3 1 (tyX3 1) true := ⟨by decide, rfl, (RX3, TX3, 9), rfl, by decide, rfl, Or.inl pw1_142⟩
theorem fl_RX8_15 : pg_FL RX8 15 8 1 (tyX8 1) false := ⟨by decide, rfl, (RX8, TX8, 2), rfl, by decide, rfl, Or.inl pw1_128⟩
theorem fl_RX8_9 : pg_FL RX8 9 8 0 (tyX8 0) true := ⟨by decide, rfl, (RX8, TX8, 2), rfl, by decide, rfl, Or.inl pw1_126⟩
theorem fl_RX3_54 : pg_FL RX3 54 3 3 (tyX3 3) false := ⟨by decide, rfl, (RX3, TX3, 9), rfl, by decide, rfl, Or.inl pw1_144⟩
theorem fl_RX3_26 : pg_FL RX3 26 3 4 (tyX3 4) false := ⟨by decide, rfl, (RX3, TX3, 9), rfl, by decide, rfl, Or.inl pw1_145⟩
theorem fl_RX3_126 : pg_FL RX3 126 8 0 (tyX8 0) true := ⟨by decide, rfl, (RX8, TX8, 2), rfl, by decide, rfl, Or.inr ⟨_, pw1_127⟩⟩
theorem fl_RX3_42 : pg_FL RX3 42 3 5 (tyX3 5) false := ⟨by decide, rfl, (RX3, TX3, 9), rfl, by decide, rfl, Or.inl pw1_146⟩
theorem fl_RX3_89 : pg_FL RX3 89 3 6 (tyX3 6) false := ⟨by decide, rfl, (RX3, TX3, 9), rfl, by decide, rfl, Or.inl pw1_147⟩
theorem fl_RX3_23 : pg_FL RX3 23 3 2 (tyX3 2) false := ⟨by decide, rfl, (RX3, TX3, 9), rfl, by decide, rfl, Or.inl pw1_143⟩
theorem fl_RX3_29 : pg_FL RX3 29 3 7 (tyX3 7) false := ⟨by decide, rfl, (RX3, TX3, 9), rfl, by decide, rfl, Or.inl pw1_148⟩
theorem fl_RX4_9 : pg_FL RX4 9 4 0 (tyX4 0) true := ⟨by decide, rfl, (RX4, TX4, 9), rfl, by decide, rfl, Or.inl pw1_192⟩
theorem fl_RX4_15 : pg_FL RX4 15 4 1 (tyX4 1) true := ⟨by decide, rfl, (RX4, TX4, 9), rfl, by decide, rfl, Or.inl pw1_193⟩
theorem fl_RX4_18 : pg_FL RX4 18 4 2 (tyX4 2) true := ⟨by decide, rfl, (RX4, TX4, 9), rfl, by decide, rfl, Or.inl pw1_194⟩
theorem fl_RX4_21 : pg_FL RX4 21 4 3 (tyX4 3) true := ⟨by decide, rfl, (RX4, TX4, 9), rfl, by decide, rfl, Or.inl pw1_195⟩
theorem fl_RX4_24 : pg_FL RX4 24 4 4 (tyX4 4) true := ⟨by decide, rfl, (RX4, TX4, 9), rfl, by decide, rfl, Or.inl pw1_196⟩
theorem fl_RX4_27 : pg_FL RX4 27 4 5 (tyX4 5) true := ⟨by decide, rfl, (RX4, TX4, 9), rfl, by decide, rfl, Or.inl pw1_197⟩
theorem fl_RX4_30 : pg_FL RX4 30 4 6 (tyX4 6) true := ⟨by decide, rfl, (RX4, TX4, 9), rfl, by decide, rfl, Or.inl pw1_198⟩
theorem fl_RX4_33 : pg_FL RX4 33 4 7 (tyX4 7) true := ⟨by decide, rfl, (RX4, TX4, 9), rfl, by decide, rfl, Or.inl pw1_199⟩
theorem fl_RX4_36 : pg_FL RX4 36 4 8 (tyX4 8) false := ⟨by decide, rfl, (RX4, TX4, 9), rfl, by decide, rfl, Or.inl pw1_200⟩
theorem fl_RX4_46 : pg_FL RX4 46 5 4 (tyX5 4) true := ⟨by decide, rfl, (RX5, TX5, 9), rfl, by decide, rfl, Or.inl pw1_89⟩
theorem fl_RX4_90 : pg_FL RX4 90 5 5 (tyX5 5) true := ⟨by decide, rfl, (RX5, TX5, 9), rfl, by decide, rfl, Or.inl pw1_93⟩
theorem fl_RX5_20 : pg_FL RX5 20 5 1 (tyX5 1) true := ⟨by decide, rfl, (RX5, TX5, 9), rfl, by decide, rfl, Or.inl pw1_80⟩
theorem fl_RX5_14 : pg_FL RX5 14 5 0 (tyX5 0) true := ⟨by decide, rfl, (RX5, TX5, 9), rfl, by decide, rfl, Or.inl pw1_74⟩
theorem fl_RX4_116 : pg_FL RX4 116 5 0 (tyX5 0) true := ⟨by decide, rfl, (RX5, TX5, 9), rfl, by decide, rfl, Or.inl pw1_79⟩
theorem fl_RX7_15 : pg_FL RX7 15 7 2 (tyX7 2) true := ⟨by decide, rfl, (RX7, TX7, 4), rfl, by decide, rfl, Or.inl pw1_48⟩
theorem fl_RX5_23 : pg_FL RX5 23 5 2 (tyX5 2) true := ⟨by decide, rfl, (RX5, TX5, 9), rfl, by decide, rfl, Or.inl pw1_82⟩
theorem fl_RX5_26 : pg_FL RX5 26 5 3 (tyX5 3) true := ⟨by decide, rfl, (RX5, TX5, 9), rfl, by decide, rfl, Or.inl pw1_85⟩
theorem fl_RX5_32 : pg_FL RX5 32 5 5 (tyX5 5) true := ⟨by decide, rfl, (RX5, TX5, 9), rfl, by decide, rfl, Or.inl pw1_92⟩
theorem fl_RX6_11 : pg_FL RX6 11 6 0 (tyX6 0) true := ⟨by decide, rfl, (RX6, TX6, 9), rfl, by decide, rfl, Or.inl pw1_226⟩
theorem fl_RX6_15 : pg_FL RX6 15 6 1 (tyX6 1) true := ⟨by decide, rfl, (RX6, TX6, 9), rfl, by decide, rfl, Or.inl pw1_227⟩
theorem fl_RX6_19 : pg_FL RX6 19 6 2 (tyX6 2) true := ⟨by decide, rfl, (RX6, TX6, 9), rfl, by decide, rfl, Or.inl pw1_228⟩
theorem fl_RX6_22 : pg_FL RX6 22 6 3 (tyX6 3) true := ⟨by decide, rfl, (RX6, TX6, 9), rfl, by decide, rfl, Or.inl pw1_229⟩
theorem fl_RX6_25 : pg_FL RX6 25 6 4 (tyX6 4) true := ⟨by decide, rfl, (RX6, TX6, 9), rfl, by decide, rfl, Or.inl pw1_230⟩
theorem fl_RX6_28 : pg_FL RX6 28 6 5 (tyX6 5) true := ⟨by decide, rfl, (RX6, TX6, 9), rfl, by decide, rfl, Or.inl pw1_231⟩
theorem fl_RX6_31 : pg_FL RX6 31 6 6 (tyX6 6) true := ⟨by decide, rfl, (RX6, TX6, 9), rfl, by decide, rfl, Or.inl pw1_232⟩
theorem fl_RX6_34 : pg_FL RX6 34 6 8 (tyX6 8) false := ⟨by decide, rfl, (RX6, TX6, 9), rfl, by decide, rfl, Or.inl pw1_234⟩
theorem fl_RX6_67 : pg_FL RX6 67 5 0 (tyX5 0) true := ⟨by decide, rfl, (RX5, TX5, 9), rfl, by decide, rfl, Or.inl pw1_78⟩
theorem fl_RX6_48 : pg_FL RX6 48 6 7 (tyX6 7) false := ⟨by decide, rfl, (RX6, TX6, 9), rfl, by decide, rfl, Or.inl pw1_233⟩
theorem fl_RX10_11 : pg_FL RX10 11 10 0 (tyX10 0) true := ⟨by decide, rfl, (RX10, TX10, 6), rfl, by decide, rfl, Or.inl pw2_55⟩
theorem fl_RX10_15 : pg_FL RX10 15 10 1 (tyX10 1) true := ⟨by decide, rfl, (RX10, TX10, 6), rfl, by decide, rfl, Or.inl pw2_56⟩
theorem fl_RX10_18 : pg_FL RX10 18 10 2 (tyX10 2) true := ⟨by decide, rfl, (RX10, TX10, 6), rfl, by decide, rfl, Or.inl pw2_57⟩
theorem fl_RX10_21 : pg_FL RX10 21 10 3 (tyX10 3) false := ⟨by decide, rfl, (RX10, TX10, 6), rfl, by decide, rfl, Or.inl pw2_58⟩
theorem fl_RX10_51 : pg_FL RX10 51 10 5 (tyX10 5) false := ⟨by decide, rfl, (RX10, TX10, 6), rfl, by decide, rfl, Or.inl pw2_60⟩
theorem fl_RX10_48 : pg_FL RX10 48 10 4 (tyX10 4) false := ⟨by decide, rfl, (RX10, TX10, 6), rfl, by decide, rfl, Or.inl pw2_59⟩
theorem fl_RX10_37 : pg_FL RX10 37 5 0 (tyX5 0) true := ⟨by decide, rfl, (RX5, TX5, 9), rfl, by decide, rfl, Or.inl pw1_77⟩
theorem fl_RX11_10 : pg_FL RX11 10 11 0 (tyX11 0) true := ⟨by decide, rfl, (RX11, TX11, 16), rfl, by decide, rfl, Or.inl pw2_74⟩
theorem fl_RX11_16 : pg_FL RX11 16 11 1 (tyX11 1) true := ⟨by decide, rfl, (RX11, TX11, 16), rfl, by decide, rfl, Or.inl pw2_75⟩
theorem fl_RX11_20 : pg_FL RX11 20 11 2 (tyX11 2) true := ⟨by decide, rfl, (RX11, TX11, 16), rfl, by decide, rfl, Or.inl pw2_76⟩
theorem fl_RX11_27 : pg_FL RX11 27 11 3 (tyX11 3) true := ⟨by decide, rfl, (RX11, TX11, 16), rfl, by decide, rfl, Or.inl pw2_77⟩
theorem fl_RX11_36 : pg_FL RX11 36 11 4 (tyX11 4) true := ⟨by decide, rfl, (RX11, TX11, 16), rfl, by decide, rfl, Or.inl pw2_78⟩
theorem fl_RX11_43 : pg_FL RX11 43 11 5 (tyX11 5) true := ⟨by decide, rfl, (RX11, TX11, 16), rfl, by decide, rfl, Or.inl pw2_79⟩
theorem fl_RX11_50 : pg_FL RX11 50 11 6 (tyX11 6) true := ⟨by decide, rfl, (RX11, TX11, 16), rfl, by decide, rfl, Or.inl pw2_80⟩
theorem fl_RX11_57 : pg_FL RX11 57 11 7 (tyX11 7) true := ⟨by decide, rfl, (RX11, TX11, 16), rfl, by decide, rfl, Or.inl pw2_81⟩
theorem fl_RX11_64 : pg_FL RX11 64 11 8 (tyX11 8) true := ⟨by decide, rfl, (RX11, TX11, 16), rfl, by decide, rfl, Or.inl pw2_82⟩
theorem fl_RX11_71 : pg_FL RX11 71 11 9 (tyX11 9) true := ⟨by decide, rfl, (RX11, TX11, 16), rfl, by decide, rfl, Or.inl pw2_83⟩
theorem fl_RX11_75 : pg_FL RX11 75 11 10 (tyX11 10) true := ⟨by decide, rfl, (RX11, TX11, 16), rfl, by decide, rfl, Or.inl pw2_84⟩
theorem fl_RX11_79 : pg_FL RX11 79 11 13 (tyX11 13) false := ⟨by decide, rfl, (RX11, TX11, 16), rfl, by decide, rfl, Or.inl pw2_87⟩
theorem fl_RX11_359 : pg_FL RX11 359 11 11 (tyX11 11) false := ⟨by decide, rfl, (RX11, TX11, 16), rfl, by decide, rfl, Or.inl pw2_85⟩
theorem fl_RX11_362 : pg_FL RX11 362 11 14 (tyX11 14) false := ⟨by decide, rfl, (RX11, TX11, 16), rfl, by decide, rfl, Or.inl pw2_88⟩
theorem fl_RX11_366 : pg_FL RX11 366 11 15 (tyX11 15) false := ⟨by decide, rfl, (RX11, TX11, 16), rfl, by decide, rfl, Or.inl pw2_89⟩
theorem fl_RX11_91 : pg_FL RX11 91 5 0 (tyX5 0) true := ⟨by decide, rfl, (RX5, TX5, 9), rfl, by decide, rfl, Or.inl pw1_75⟩
theorem fl_RX11_119 : pg_FL RX11 119 5 1 (tyX5 1) true := ⟨by decide, rfl, (RX5, TX5, 9), rfl, by decide, rfl, Or.inl pw1_81⟩
theorem fl_RX11_125 : pg_FL RX11 125 5 2 (tyX5 2) true := ⟨by decide, rfl, (RX5, TX5, 9), rfl, by decide, rfl, Or.inl pw1_84⟩
theorem fl_RX11_128 : pg_FL RX11 128 5 3 (tyX5 3) true := ⟨by decide, rfl, (RX5, TX5, 9), rfl, by decide, rfl, Or.inl pw1_87⟩
theorem fl_RX11_145 : pg_FL RX11 145 5 4 (tyX5 4) true := ⟨by decide, rfl, (RX5, TX5, 9), rfl, by decide, rfl, Or.inl pw1_91⟩
theorem fl_RX11_166 : pg_FL RX11 166 5 5 (tyX5 5) true := ⟨by decide, rfl, (RX5, TX5, 9), rfl, by decide, rfl, Or.inl pw1_94⟩
theorem fl_RX11_183 : pg_FL RX11 183 11 12 (tyX11 12) false := ⟨by decide, rfl, (RX11, TX11, 16), rfl, by decide, rfl, Or.inl pw2_86⟩
theorem fl_RX11_186 : pg_FL RX11 186 5 7 (tyX5 7) false := ⟨by decide, rfl, (RX5, TX5, 9), rfl, by decide, rfl, Or.inl pw1_97⟩
theorem fl_RX11_204 : pg_FL RX11 204 5 8 (tyX5 8) false := ⟨by decide, rfl, (RX5, TX5, 9), rfl, by decide, rfl, Or.inl pw1_99⟩
theorem fl_RX12_3 : pg_FL RX12 3 12 0 (tyX12 0) false := ⟨by decide, rfl, (RX12, TX12, 46), rfl, by decide, rfl, Or.inl pw6_35⟩
theorem fl_RX12_7 : pg_FL RX12 7 12 2 (tyX12 2) true := ⟨by decide, rfl, (RX12, TX12, 46), rfl, by decide, rfl, Or.inl pw6_37⟩
theorem fl_RX12_11 : pg_FL RX12 11 12 1 (tyX12 1) false := ⟨by decide, rfl, (RX12, TX12, 46), rfl, by decide, rfl, Or.inl pw6_36⟩
theorem fl_RX12_20 : pg_FL RX12 20 12 3 (tyX12 3) true := ⟨by decide, rfl, (RX12, TX12, 46), rfl, by decide, rfl, Or.inl pw6_38⟩
theorem fl_RX12_23 : pg_FL RX12 23 12 4 (tyX12 4) true := ⟨by decide, rfl, (RX12, TX12, 46), rfl, by decide, rfl, Or.inl pw6_39⟩
theorem fl_RX12_26 : pg_FL RX12 26 12 5 (tyX12 5) true := ⟨by decide, rfl, (RX12, TX12, 46), rfl, by decide, rfl, Or.inl pw6_40⟩
theorem fl_RX12_30 : pg_FL RX12 30 12 7 (tyX12 7) true := ⟨by decide, rfl, (RX12, TX12, 46), rfl, by decide, rfl, Or.inl pw6_42⟩
theorem fl_RX12_34 : pg_FL RX12 34 12 8 (tyX12 8) true := ⟨by decide, rfl, (RX12, TX12, 46), rfl, by decide, rfl, Or.inl pw6_43⟩
theorem fl_RX12_37 : pg_FL RX12 37 12 9 (tyX12 9) true := ⟨by decide, rfl, (RX12, TX12, 46), rfl, by decide, rfl, Or.inl pw6_44⟩
theorem fl_RX12_40 : pg_FL RX12 40 12 11 (tyX12 11) false := ⟨by decide, rfl, (RX12, TX12, 46), rfl, by decide, rfl, Or.inl pw6_46⟩
theorem fl_RX12_43 : pg_FL RX12 43 12 12 (tyX12 12) true := ⟨by decide, rfl, (RX12, TX12, 46), rfl, by decide, rfl, Or.inl pw6_47⟩
theorem fl_RX12_46 : pg_FL RX12 46 12 13 (tyX12 13) true := ⟨by decide, rfl, (RX12, TX12, 46), rfl, by decide, rfl, Or.inl pw6_48⟩
theorem fl_RX12_49 : pg_FL RX12 49 12 14 (tyX12 14) true := ⟨by decide, rfl, (RX12, TX12, 46), rfl, by decide, rfl, Or.inl pw6_49⟩
theorem fl_RX12_52 : pg_FL RX12 52 12 22 (tyX12 22) true := ⟨by decide, rfl, (RX12, TX12, 46), rfl, by decide, rfl, Or.inl pw6_57⟩
theorem fl_RX12_55 : pg_FL RX12 55 12 25 (tyX12 25) true := ⟨by decide, rfl, (RX12, TX12, 46), rfl, by decide, rfl, Or.inl pw6_60⟩
theorem fl_RX12_58 : pg_FL RX12 58 12 26 (tyX12 26) true := ⟨by decide, rfl, (RX12, TX12, 46), rfl, by decide, rfl, Or.inl pw6_61⟩
theorem fl_RX12_61 : pg_FL RX12 61 12 27 (tyX12 27) true := ⟨by decide, rfl, (RX12, TX12, 46), rfl, by decide, rfl, Or.inl pw6_62⟩
theorem fl_RX12_64 : pg_FL RX12 64 12 28 (tyX12 28) true := ⟨by decide, rfl, (RX12, TX12, 46), rfl, by decide, rfl, Or.inl pw6_63⟩
theorem fl_RX12_67 : pg_FL RX12 67 12 29 (tyX12 29) true := ⟨by decide, rfl, (RX12, TX12, 46), rfl, by decide, rfl, Or.inl pw6_64⟩
theorem fl_RX12_70 : pg_FL RX12 70 12 31 (tyX12 31) false := ⟨by decide, rfl, (RX12, TX12, 46), rfl, by decide, rfl, Or.inl pw6_66⟩
theorem fl_RX12_73 : pg_FL RX12 73 12 32 (tyX12 32) true := ⟨by decide, rfl, (RX12, TX12, 46), rfl, by decide, rfl, Or.inl pw6_67⟩
theorem fl_RX12_76 : pg_FL RX12 76 12 33 (tyX12 33) true := ⟨by decide, rfl, (RX12, TX12, 46), rfl, by decide, rfl, Or.inl pw6_68⟩
theorem fl_RX12_79 : pg_FL RX12 79 12 34 (tyX12 34) true := ⟨by decide, rfl, (RX12, TX12, 46), rfl, by decide, rfl, Or.inl pw6_69⟩
theorem fl_RX12_83 : pg_FL RX12 83 12 35 (tyX12 35) true := ⟨by decide, rfl, (RX12, TX12, 46), rfl, by decide, rfl, Or.inl pw6_70⟩
theorem fl_RX12_86 : pg_FL RX12 86 12 36 (tyX12 36) true := ⟨by decide, rfl, (RX12, TX12, 46), rfl, by decide, rfl, Or.inl pw6_71⟩
theorem fl_RX12_89 : pg_FL RX12 89 12 37 (tyX12 37) true := ⟨by decide, rfl, (RX12, TX12, 46), rfl, by decide, rfl, Or.inl pw6_72⟩
theorem fl_RX12_92 : pg_FL RX12 92 12 38 (tyX12 38) true := ⟨by decide, rfl, (RX12, TX12, 46), rfl, by decide, rfl, Or.inl pw6_73⟩
theorem fl_RX12_95 : pg_FL RX12 95 12 39 (tyX12 39) true := ⟨by decide, rfl, (RX12, TX12, 46), rfl, by decide, rfl, Or.inl pw6_74⟩
theorem fl_RX12_98 : pg_FL RX12 98 12 40 (tyX12 40) true := ⟨by decide, rfl, (RX12, TX12, 46), rfl, by decide, rfl, Or.inl pw6_75⟩
theorem fl_RX12_101 : pg_FL RX12 101 12 41 (tyX12 41) true := ⟨by decide, rfl, (RX12, TX12, 46), rfl, by decide, rfl, Or.inl pw6_76⟩
theorem fl_RX12_104 : pg_FL RX12 104 12 42 (tyX12 42) true := ⟨by decide, rfl, (RX12, TX12, 46), rfl, by decide, rfl, Or.inl pw6_77⟩
theorem fl_RX12_107 : pg_FL RX12 107 12 43 (tyX12 43) true := ⟨by decide, rfl, (RX12, TX12, 46), rfl, by decide, rfl, Or.inl pw6_78⟩
theorem fl_RX12_110 : pg_FL RX12 110 12 44 (tyX12 44) false := ⟨by decide, rfl, (RX12, TX12, 46), rfl, by decide, rfl, Or.inl pw6_79⟩
theorem fl_RX12_163 : pg_FL RX12 163 12 10 (tyX12 10) false := ⟨by decide, rfl, (RX12, TX12, 46), rfl, by decide, rfl, Or.inl pw6_45⟩
theorem fl_RX12_166 : pg_FL RX12 166 12 6 (tyX12 6) false := ⟨by decide, rfl, (RX12, TX12, 46), rfl, by decide, rfl, Or.inl pw6_41⟩
theorem fl_RX12_169 : pg_FL RX12 169 12 15 (tyX12 15) false := ⟨by decide, rfl, (RX12, TX12, 46), rfl, by decide, rfl, Or.inl pw6_50⟩
theorem fl_RX12_182 : pg_FL RX12 182 12 18 (tyX12 18) false := ⟨by decide, rfl, (RX12, TX12, 46), rfl, by decide, rfl, Or.inl pw6_53⟩
theorem fl_RX12_189 : pg_FL RX12 189 12 16 (tyX12 16) false := ⟨by decide, rfl, (RX12, TX12, 46), rfl, by decide, rfl, Or.inl pw6_51⟩
theorem fl_RX12_198 : pg_FL RX12 198 12 17 (tyX12 17) false := ⟨by decide, rfl, (RX12, TX12, 46), rfl, by decide, rfl, Or.inl pw6_52⟩
theorem fl_RX12_242 : pg_FL RX12 242 12 20 (tyX12 20) false := ⟨by decide, rfl, (RX12, TX12, 46), rfl, by decide, rfl, Or.inl pw6_55⟩
theorem fl_RX12_245 : pg_FL RX12 245 12 19 (tyX12 19) false := ⟨by decide, rfl, (RX12, TX12, 46), rfl, by decide, rfl, Or.inl pw6_54⟩
theorem fl_RX12_255 : pg_FL RX12 255 12 21 (tyX12 21) false := ⟨by decide, rfl, (RX12, TX12, 46), rfl, by decide, rfl, Or.inl pw6_56⟩
theorem fl_RX12_289 : pg_FL RX12 289 12 23 (tyX12 23) false := ⟨by decide, rfl, (RX12, TX12, 46), rfl, by decide, rfl, Or.inl pw6_58⟩
theorem fl_RX12_293 : pg_FL RX12 293 12 24 (tyX12 24) false := ⟨by decide, rfl, (RX12, TX12, 46), rfl, by decide, rfl, Or.inl pw6_59⟩
theorem fl_RX12_343 : pg_FL RX12 343 12 30 (tyX12 30) false := ⟨by decide, rfl, (RX12, TX12, 46), rfl, by decide, rfl, Or.inl pw6_65⟩
theorem fl_RX12_425 : pg_FL RX12 425 12 45 (tyX12 45) false := ⟨by decide, rfl, (RX12, TX12, 46), rfl, by decide, rfl, Or.inl pw6_80⟩
theorem fp_RX0_9 : pg_FP RX0 9 0 0 := ⟨(RX0, TX0, 3), rfl, rfl, pw1_175⟩
theorem fp_RX0_15 : pg_FP RX0 15 0 1 := ⟨(RX0, TX0, 3), rfl, rfl, pw1_176⟩
theorem fp_RX1_9 : pg_FP RX1 9 1 0 := ⟨(RX1, TX1, 2), rfl, rfl, pw2_26⟩
theorem fp_RX2_12 : pg_FP RX2 12 2 0 := ⟨(RX2, TX2, 5), rfl, rfl, pw2_33⟩
theorem fp_RX2_18 : pg_FP RX2 18 2 1 := ⟨(RX2, TX2, 5), rfl, rfl, pw2_34⟩
theorem fp_RX2_21 : pg_FP RX2 21 2 2 := ⟨(RX2, TX2, 5), rfl, rfl, pw2_35⟩
theorem fp_RX2_24 : pg_FP RX2 24 2 3 := ⟨(RX2, TX2, 5), rfl, rfl, pw2_36⟩
theorem fp_RX2_28 : pg_FP RX2 28 2 4 := ⟨(RX2, TX2, 5), rfl, rfl, pw2_37⟩
theorem fp_RX3_11 : pg_FP RX3 11 3 0 := ⟨(RX3, TX3, 9), rfl, rfl, pw1_141⟩
theorem fp_RX3_19 : pg_FP RX3 19 3 1 := ⟨(RX3, TX3, 9), rfl, rfl, pw1_142⟩
theorem fp_RX9_22 : pg_FP RX9 22 9 0 := ⟨(RX9, TX9, 1), rfl, rfl, pw4_13⟩
theorem fp_RX4_9 : pg_FP RX4 9 4 0 := ⟨(RX4, TX4, 9), rfl, rfl, pw1_192⟩
theorem fp_RX4_15 : pg_FP RX4 15 4 1 := ⟨(RX4, TX4, 9), rfl, rfl, pw1_193⟩
theorem fp_RX4_18 : pg_FP RX4 18 4 2 := ⟨(RX4, TX4, 9), rfl, rfl, pw1_194⟩
theorem fp_RX4_21 : pg_FP RX4 21 4 3 := ⟨(RX4, TX4, 9), rfl, rfl, pw1_195⟩
theorem fp_RX4_24 : pg_FP RX4 24 4 4 := ⟨(RX4, TX4, 9), rfl, rfl, pw1_196⟩
theorem fp_RX4_27 : pg_FP RX4 27 4 5 := ⟨(RX4, TX4, 9), rfl, rfl, pw1_197⟩
theorem fp_RX4_30 : pg_FP RX4 30 4 6 := ⟨(RX4, TX4, 9), rfl, rfl, pw1_198⟩
theorem fp_RX4_33 : pg_FP RX4 33 4 7 := ⟨(RX4, TX4, 9), rfl, rfl, pw1_199⟩
theorem fp_RX7_15 : pg_FP RX7 15 7 2 := ⟨(RX7, TX7, 4), rfl, rfl, pw1_48⟩
theorem fp_RX7_21 : pg_FP RX7 21 7 1 := ⟨(RX7, TX7, 4), rfl, rfl, pw1_47⟩
theorem fp_RX7_24 : pg_FP RX7 24 7 0 := ⟨(RX7, TX7, 4), rfl, rfl, pw1_46⟩
theorem fp_RX5_14 : pg_FP RX5 14 5 0 := ⟨(RX5, TX5, 9), rfl, rfl, pw1_74⟩
theorem fp_RX5_20 : pg_FP RX5 20 5 1 := ⟨(RX5, TX5, 9), rfl, rfl, pw1_80⟩
theorem fp_RX5_23 : pg_FP RX5 23 5 2 := ⟨(RX5, TX5, 9), rfl, rfl, pw1_82⟩
theorem fp_RX5_26 : pg_FP RX5 26 5 3 := ⟨(RX5, TX5, 9), rfl, rfl, pw1_85⟩
theorem fp_RX5_29 : pg_FP RX5 29 5 4 := ⟨(RX5, TX5, 9), rfl, rfl, pw1_88⟩
theorem fp_RX5_32 : pg_FP RX5 32 5 5 := ⟨(RX5, TX5, 9), rfl, rfl, pw1_92⟩
theorem fp_RX5_38 : pg_FP RX5 38 5 6 := ⟨(RX5, TX5, 9), rfl, rfl, pw1_95⟩
theorem fp_RX6_11 : pg_FP RX6 11 6 0 := ⟨(RX6, TX6, 9), rfl, rfl, pw1_226⟩
theorem fp_RX6_15 : pg_FP RX6 15 6 1 := ⟨(RX6, TX6, 9), rfl, rfl, pw1_227⟩
theorem fp_RX6_19 : pg_FP RX6 19 6 2 := ⟨(RX6, TX6, 9), rfl, rfl, pw1_228⟩
theorem fp_RX6_22 : pg_FP RX6 22 6 3 := ⟨(RX6, TX6, 9), rfl, rfl, pw1_229⟩
theorem fp_RX6_25 : pg_FP RX6 25 6 4 := ⟨(RX6, TX6, 9), rfl, rfl, pw1_230⟩
theorem fp_RX6_28 : pg_FP RX6 28 6 5 := ⟨(RX6, TX6, 9), rfl, rfl, pw1_231⟩
theorem fp_RX6_31 : pg_FP RX6 31 6 6 := ⟨(RX6, TX6, 9), rfl, rfl, pw1_232⟩
theorem fp_RX8_9 : pg_FP RX8 9 8 0 := ⟨(RX8, TX8, 2), rfl, rfl, pw1_126⟩
theorem fp_RX10_11 : pg_FP RX10 11 10 0 := ⟨(RX10, TX10, 6), rfl, rfl, pw2_55⟩
theorem fp_RX10_15 : pg_FP RX10 15 10 1 := ⟨(RX10, TX10, 6), rfl, rfl, pw2_56⟩
theorem fp_RX10_18 : pg_FP RX10 18 10 2 := ⟨(RX10, TX10, 6), rfl, rfl, pw2_57⟩
theorem fp_RX11_10 : pg_FP RX11 10 11 0 := ⟨(RX11, TX11, 16), rfl, rfl, pw2_74⟩
theorem fp_RX11_16 : pg_FP RX11 16 11 1 := ⟨(RX11, TX11, 16), rfl, rfl, pw2_75⟩
theorem fp_RX11_20 : pg_FP RX11 20 11 2 := ⟨(RX11, TX11, 16), rfl, rfl, pw2_76⟩
theorem fp_RX11_27 : pg_FP RX11 27 11 3 := ⟨(RX11, TX11, 16), rfl, rfl, pw2_77⟩
theorem fp_RX11_36 : pg_FP RX11 36 11 4 := ⟨(RX11, TX11, 16), rfl, rfl, pw2_78⟩
theorem fp_RX11_43 : pg_FP RX11 43 11 5 := ⟨(RX11, TX11, 16), rfl, rfl, pw2_79⟩
theorem fp_RX11_50 : pg_FP RX11 50 11 6 := ⟨(RX11, TX11, 16), rfl, rfl, pw2_80⟩
theorem fp_RX11_57 : pg_FP RX11 57 11 7 := ⟨(RX11, TX11, 16), rfl, rfl, pw2_81⟩
theorem fp_RX11_64 : pg_FP RX11 64 11 8 := ⟨(RX11, TX11, 16), rfl, rfl, pw2_82⟩
theorem fp_RX11_71 : pg_FP RX11 71 11 9 := ⟨(RX11, TX11, 16), rfl, rfl, pw2_83⟩
theorem fp_RX11_75 : pg_FP RX11 75 11 10 := ⟨(RX11, TX11, 16), rfl, rfl, pw2_84⟩
theorem fp_RX12_7 : pg_FP RX12 7 12 2 := ⟨(RX12, TX12, 46), rfl, rfl, pw6_37⟩
theorem fp_RX12_20 : pg_FP RX12 20 12 3 := ⟨(RX12, TX12, 46), rfl, rfl, pw6_38⟩
theorem fp_RX12_23 : pg_FP RX12 23 12 4 := ⟨(RX12, TX12, 46), rfl, rfl, pw6_39⟩
theorem fp_RX12_26 : pg_FP RX12 26 12 5 := ⟨(RX12, TX12, 46), rfl, rfl, pw6_40⟩
theorem fp_RX12_30 : pg_FP RX12 30 12 7 := ⟨(RX12, TX12, 46), rfl, rfl, pw6_42⟩
theorem fp_RX12_34 : pg_FP RX12 34 12 8 := ⟨(RX12, TX12, 46), rfl, rfl, pw6_43⟩
theorem fp_RX12_37 : pg_FP RX12 37 12 9 := ⟨(RX12, TX12, 46), rfl, rfl, pw6_44⟩
theorem fp_RX12_43 : pg_FP RX12 43 12 12 := ⟨(RX12, TX12, 46), rfl, rfl, pw6_47⟩
theorem fp_RX12_46 : pg_FP RX12 46 12 13 := ⟨(RX12, TX12, 46), rfl, rfl, pw6_48⟩
theorem fp_RX12_49 : pg_FP RX12 49 12 14 := ⟨(RX12, TX12, 46), rfl, rfl, pw6_49⟩
theorem fp_RX12_52 : pg_FP RX12 52 12 22 := ⟨(RX12, TX12, 46), rfl, rfl, pw6_57⟩
theorem fp_RX12_55 : pg_FP RX12 55 12 25 := ⟨(RX12, TX12, 46), rfl, rfl, pw6_60⟩
theorem fp_RX12_58 : pg_FP RX12 58 12 26 := ⟨(RX12, TX12, 46), rfl, rfl, pw6_61⟩
theorem fp_RX12_61 : pg_FP RX12 61 12 27 := ⟨(RX12, TX12, 46), rfl, rfl, pw6_62⟩
theorem fp_RX12_64 : pg_FP RX12 64 12 28 := ⟨(RX12, TX12, 46), rfl, rfl, pw6_63⟩
theorem fp_RX12_67 : pg_FP RX12 67 12 29 := ⟨(RX12, TX12, 46), rfl, rfl, pw6_64⟩
theorem fp_RX12_73 : pg_FP RX12 73 12 32 := ⟨(RX12, TX12, 46), rfl, rfl, pw6_67⟩
theorem fp_RX12_76 : pg_FP RX12 76 12 33 := ⟨(RX12, TX12, 46), rfl, rfl, pw6_68⟩
theorem fp_RX12_79 : pg_FP RX12 79 12 34 := ⟨(RX12, TX12, 46), rfl, rfl, pw6_69⟩
theorem fp_RX12_83 : pg_FP RX12 83 12 35 := ⟨(RX12, TX12, 46), rfl, rfl, pw6_70⟩
theorem fp_RX12_86 : pg_FP RX12 86 12 36 := ⟨(RX12, TX12, 46), rfl, rfl, pw6_71⟩
theorem fp_RX12_89 : pg_FP RX12 89 12 37 := ⟨(RX12, TX12, 46), rfl, rfl, pw6_72⟩
theorem fp_RX12_92 : pg_FP RX12 92 12 38 := ⟨(RX12, TX12, 46), rfl, rfl, pw6_73⟩
theorem fp_RX12_95 : pg_FP RX12 95 12 39 := ⟨(RX12, TX12, 46), rfl, rfl, pw6_74⟩
theorem fp_RX12_98 : pg_FP RX12 98 12 40 := ⟨(RX12, TX12, 46), rfl, rfl, pw6_75⟩
theorem fp_RX12_101 : pg_FP RX12 101 12 41 := ⟨(RX12, TX12, 46), rfl, rfl, pw6_76⟩
theorem fp_RX12_104 : pg_FP RX12 104 12 42 := ⟨(RX12, TX12, 46), rfl, rfl, pw6_77⟩
theorem fp_RX12_107 : pg_FP RX12 107 12 43 := ⟨(RX12, TX12, 46), rfl, rfl, pw6_78⟩
theorem kc_RX0_94 : Cond.constantLong RX0 94 (1000000000 : Int64) ∈ pg_W := pw3_35
theorem kc_RX0_96 : Cond.constantLong RX0 96 (-1000000000 : Int64) ∈ pg_W := pw3_36
theorem kc_RX0_74 : Cond.constantLong RX0 74 (100 : Int64) ∈ pg_W := pw3_37
theorem kc_RX1_17 : Cond.constantLong RX1 17 (1073741823 : Int64) ∈ pg_W := pw4_234
theorem kc_RX1_31 : Cond.constantLong RX1 31 (2147483647 : Int64) ∈ pg_W := pw5_7
theorem kc_RX2_76 : Cond.constant RX2 76 (1000000 : Int32) ∈ pg_W := pw5_16
theorem kc_RJ6_264 : Cond.constant RJ6 264 (65536 : Int32) ∈ pg_W := pw4_170
theorem kc_RX2_123 : Cond.constantLong RX2 123 (100 : Int64) ∈ pg_W := pw5_108
theorem kc_RX2_121 : Cond.constantLong RX2 121 (1000000 : Int64) ∈ pg_W := pw5_118
theorem kc_RJ6_265 : Cond.constant RJ6 265 (1431655765 : Int32) ∈ pg_W := pw2_226
theorem kc_RJ6_266 : Cond.constant RJ6 266 (858993459 : Int32) ∈ pg_W := pw2_227
theorem kc_RJ6_267 : Cond.constant RJ6 267 (252645135 : Int32) ∈ pg_W := pw2_228
theorem kc_RX6_51 : Cond.constantLong RX6 51 (-1 : Int64) ∈ pg_W := pw4_99
theorem kc_RX6_101 : Cond.constantLong RX6 101 (4611686018427387904 : Int64) ∈ pg_W := pw4_110
theorem kc_RX6_46 : Cond.constantLong RX6 46 (1792160394037 : Int64) ∈ pg_W := pw4_98
theorem kc_RX6_53 : Cond.constantLong RX6 53 (23298085122481 : Int64) ∈ pg_W := pw4_100
theorem kc_RX6_55 : Cond.constantLong RX6 55 (13 : Int64) ∈ pg_W := pw4_101
theorem kc_RX10_93 : Cond.constantLong RX10 93 (1103 : Int64) ∈ pg_W := pw5_208
theorem kc_RX10_95 : Cond.constantLong RX10 95 (12345 : Int64) ∈ pg_W := pw5_209
theorem kc_RX10_97 : Cond.constantLong RX10 97 (1000003 : Int64) ∈ pg_W := pw5_210
theorem kc_RX10_99 : Cond.constantLong RX10 99 (100 : Int64) ∈ pg_W := pw5_211
theorem kc_RX11_258 : Cond.constant RX11 258 (-1000000 : Int32) ∈ pg_W := pw4_160
theorem kc_RJ13_314 : Cond.constantLong RJ13 314 (6148914691236517205 : Int64) ∈ pg_W := pw5_154
theorem kc_RJ13_316 : Cond.constantLong RJ13 316 (3689348814741910323 : Int64) ∈ pg_W := pw5_155
theorem kc_RJ13_318 : Cond.constantLong RJ13 318 (1085102592571150095 : Int64) ∈ pg_W := pw5_156
theorem kc_RX11_335 : Cond.constant RX11 335 (1000000 : Int32) ∈ pg_W := pw5_178
theorem kc_RX12_181 : Cond.constant RX12 181 (1000000 : Int32) ∈ pg_W := pw7_70
theorem kc_RX12_251 : Cond.constantLong RX12 251 (1000000000 : Int64) ∈ pg_W := pw7_174
theorem kc_RX12_253 : Cond.constantLong RX12 253 (-1000000000 : Int64) ∈ pg_W := pw7_175
theorem kc_RX12_306 : Cond.constantLong RX12 306 (100 : Int64) ∈ pg_W := pw7_192
theorem kc_RX12_333 : Cond.constant RX12 333 (1000000000 : Int32) ∈ pg_W := pw8_1
theorem kc_RX12_355 : Cond.constant RX12 355 (-1000000 : Int32) ∈ pg_W := pw8_34
theorem kc_RX12_365 : Cond.constantLong RX12 365 (100000000 : Int64) ∈ pg_W := pw8_81
theorem kc_RX12_423 : Cond.constantLong RX12 423 (1103 : Int64) ∈ pg_W := pw8_188
theorem kc_RX12_428 : Cond.constantLong RX12 428 (12345 : Int64) ∈ pg_W := pw8_189
theorem kc_RX12_430 : Cond.constantLong RX12 430 (1000003 : Int64) ∈ pg_W := pw8_190
theorem pn_RJ13 : plainName RJ13 = true := by decide +kernel
theorem pn_RJ6 : plainName RJ6 = true := by decide +kernel
theorem pn_RJ7 : plainName RJ7 = true := by decide +kernel
theorem pn_RX0 : plainName RX0 = true := by decide +kernel
theorem pn_RX1 : plainName RX1 = true := by decide +kernel
theorem pn_RX10 : plainName RX10 = true := by decide +kernel
theorem pn_RX11 : plainName RX11 = true := by decide +kernel
theorem pn_RX12 : plainName RX12 = true := by decide +kernel
theorem pn_RX2 : plainName RX2 = true := by decide +kernel
theorem pn_RX3 : plainName RX3 = true := by decide +kernel
theorem pn_RX4 : plainName RX4 = true := by decide +kernel
theorem pn_RX5 : plainName RX5 = true := by decide +kernel
theorem pn_RX6 : plainName RX6 = true := by decide +kernel
theorem pn_RX7 : plainName RX7 = true := by decide +kernel
theorem pn_RX8 : plainName RX8 = true := by decide +kernel
theorem pn_RX9 : plainName RX9 = true := by decide +kernel
theorem nd_J13_bitCount_95d88 : pg_nd yJ13_bitCount_95d88 1 := ⟨by decide +kernel, by decide +kernel, by decide +kernel⟩
theorem vy_J13_bitCount_95d88 : pg_yS yJ13_bitCount_95d88 cJ13_bitCount_95d88 2 (some FieldType.int) := ⟨pw5_152, pw1_22, pw5_153⟩
theorem nd_J6_bitCount_0f7a4 : pg_nd yJ6_bitCount_0f7a4 1 := ⟨by decide +kernel, by decide +kernel, by decide +kernel⟩
theorem vy_J6_bitCount_0f7a4 : pg_yS yJ6_bitCount_0f7a4 cJ6_bitCount_0f7a4 1 (some FieldType.int) := ⟨pw2_224, pw1_15, pw2_225⟩
theorem nd_J6_numberOfLeadingZeros_0f7a4 : pg_nd yJ6_numberOfLeadingZeros_0f7a4 1 := ⟨by decide +kernel, by decide +kernel, by decide +kernel⟩
theorem vy_J6_numberOfLeadingZeros_0f7a4 : pg_yS yJ6_numberOfLeadingZeros_0f7a4 cJ6_numberOfLeadingZeros_0f7a4 2 (some FieldType.int) := ⟨pw4_172, pw1_15, pw4_173⟩
theorem nd_J6_numberOfTrailingZeros_0f7a4 : pg_nd yJ6_numberOfTrailingZeros_0f7a4 1 := ⟨by decide +kernel, by decide +kernel, by decide +kernel⟩
theorem vy_J6_numberOfTrailingZeros_0f7a4 : pg_yS yJ6_numberOfTrailingZeros_0f7a4 cJ6_numberOfTrailingZeros_0f7a4 2 (some FieldType.int) := ⟨pw4_168, pw1_15, pw4_169⟩
theorem nd_J7_copyOf_59c91 : pg_nd yJ7_copyOf_59c91 2 := ⟨by decide +kernel, by decide +kernel, by decide +kernel⟩
theorem vy_J7_copyOf_59c91 : pg_yS yJ7_copyOf_59c91 cJ7_copyOf_59c91 3 (some (FieldType.array FieldType.int)) := ⟨pw4_0, pw1_14, pw4_1⟩
theorem nd_J7_fill_53178 : pg_nd yJ7_fill_53178 2 := ⟨by decide +kernel, by decide +kernel, by decide +kernel⟩
theorem vy_J7_fill_53178 : pg_yS yJ7_fill_53178 cJ7_fill_53178 4 none := ⟨pw2_211, pw1_14, pw2_212⟩
theorem nd_J7_fill_d0a16 : pg_nd yJ7_fill_d0a16 2 := ⟨by decide +kernel, by decide +kernel, by decide +kernel⟩
theorem vy_J7_fill_d0a16 : pg_yS yJ7_fill_d0a16 cJ7_fill_d0a16 5 none := ⟨pw4_120, pw1_14, pw4_121⟩
theorem nd_X0_askOfChapter : pg_nd yX0_askOfChapter 3 := ⟨by decide +kernel, by decide +kernel, by decide +kernel⟩
theorem vy_X0_askOfChapter : pg_yV 0 yX0_askOfChapter cX0_askOfChapter 4 none := ⟨by decide, rfl, pw5_82, pw5_83, pw1_7, pw5_84⟩
theorem nd_X0_askOfCopy : pg_nd yX0_askOfCopy 2 := ⟨by decide +kernel, by decide +kernel, by decide +kernel⟩
theorem sl_X0_askOfCopy : Cond.selects RX0 yX0_askOfCopy yX0_askOfCopy ∈ pg_W := pg_sel (q := (yX0_askOfCopy, 3)) (List.mem_of_getElem? (i := 42) rfl) rfl
theorem vy_X0_askOfCopy : pg_yV 0 yX0_askOfCopy cX0_askOfCopy 3 none := ⟨by decide, rfl, pw5_87, sl_X0_askOfCopy, pw1_7, pw5_88⟩
theorem nd_X0_askOfNote : pg_nd yX0_askOfNote 3 := ⟨by decide +kernel, by decide +kernel, by decide +kernel⟩
theorem vy_X0_askOfNote : pg_yV 0 yX0_askOfNote cX0_askOfNote 4 none := ⟨by decide, rfl, pw5_162, pw5_163, pw1_7, pw5_164⟩
theorem nd_X0_askOfPlace : pg_nd yX0_askOfPlace 1 := ⟨by decide +kernel, by decide +kernel, by decide +kernel⟩
theorem vy_X0_askOfPlace : pg_yV 0 yX0_askOfPlace cX0_askOfPlace 2 none := ⟨by decide, rfl, pw2_234, pw2_235, pw1_7, pw2_236⟩
theorem nd_X0_askOfWording : pg_nd yX0_askOfWording 3 := ⟨by decide +kernel, by decide +kernel, by decide +kernel⟩
theorem vy_X0_askOfWording : pg_yV 0 yX0_askOfWording cX0_askOfWording 4 none := ⟨by decide, rfl, pw2_230, pw2_231, pw1_7, pw2_232⟩
theorem nd_X0_askedOf : pg_nd yX0_askedOf 1 := ⟨by decide +kernel, by decide +kernel, by decide +kernel⟩
theorem sl_X0_askedOf : Cond.selects RX0 yX0_askedOf yX0_askedOf ∈ pg_W := pg_sel (q := (yX0_askedOf, 3)) (List.mem_of_getElem? (i := 8) rfl) rfl
theorem vy_X0_askedOf : pg_yV 0 yX0_askedOf cX0_askedOf 2 (some FieldType.int) := ⟨by decide, rfl, pw3_28, sl_X0_askedOf, pw1_7, pw3_29⟩
theorem nd_X0_combined : pg_nd yX0_combined 3 := ⟨by decide +kernel, by decide +kernel, by decide +kernel⟩
theorem sl_X0_combined : Cond.selects RX0 yX0_combined yX0_combined ∈ pg_W := pg_sel (q := (yX0_combined, 3)) (List.mem_of_getElem? (i := 9) rfl) rfl
theorem vy_X0_combined : pg_yV 0 yX0_combined cX0_combined 8 (some FieldType.long) := ⟨by decide, rfl, pw3_33, sl_X0_combined, pw1_7, pw3_34⟩
theorem nd_X0_holdsIn : pg_nd yX0_holdsIn 2 := ⟨by decide +kernel, by decide +kernel, by decide +kernel⟩
theorem vy_X0_holdsIn : pg_yV 0 yX0_holdsIn cX0_holdsIn 6 (some FieldType.boolean) := ⟨by decide, rfl, pw5_143, pw5_144, pw1_7, pw5_145⟩
theorem nd_X0_init : pg_nd yX0_init 0 := ⟨by decide +kernel, by decide +kernel, by decide +kernel⟩
theorem vy_X0_init : pg_yI 0 yX0_init cX0_init 1 := ⟨by decide, rfl, rfl, pw1_172, pw1_7, pw1_173⟩
theorem nd_X0_passes : pg_nd yX0_passes 3 := ⟨by decide +kernel, by decide +kernel, by decide +kernel⟩
theorem sl_X0_passes : Cond.selects RX0 yX0_passes yX0_passes ∈ pg_W := pg_sel (q := (yX0_passes, 3)) (List.mem_of_getElem? (i := 6) rfl) rfl
theorem vy_X0_passes : pg_yV 0 yX0_passes cX0_passes 4 (some FieldType.boolean) := ⟨by decide, rfl, pw3_20, sl_X0_passes, pw1_7, pw3_21⟩
theorem nd_X0_told : pg_nd yX0_told 3 := ⟨by decide +kernel, by decide +kernel, by decide +kernel⟩
theorem vy_X0_told : pg_yV 0 yX0_told cX0_told 11 (some FieldType.int) := ⟨by decide, rfl, pw3_7, pw3_8, pw1_7, pw3_9⟩
theorem nd_X0_work : pg_nd yX0_work 3 := ⟨by decide +kernel, by decide +kernel, by decide +kernel⟩
theorem sl_X0_work : Cond.selects RX0 yX0_work yX0_work ∈ pg_W := pg_sel (q := (yX0_work, 3)) (List.mem_of_getElem? (i := 7) rfl) rfl
theorem vy_X0_work : pg_yV 0 yX0_work cX0_work 11 (some FieldType.long) := ⟨by decide, rfl, pw3_24, sl_X0_work, pw1_7, pw3_25⟩
theorem nd_X10_draw : pg_nd yX10_draw 4 := ⟨by decide +kernel, by decide +kernel, by decide +kernel⟩
theorem vy_X10_draw : pg_yV 10 yX10_draw cX10_draw 9 (some FieldType.int) := ⟨by decide, rfl, pw5_180, pw5_181, pw1_12, pw5_182⟩
theorem nd_X10_drawOfHundred : pg_nd yX10_drawOfHundred 0 := ⟨by decide +kernel, by decide +kernel, by decide +kernel⟩
theorem sl_X10_drawOfHundred : Cond.selects RX10 yX10_drawOfHundred yX10_drawOfHundred ∈ pg_W := pg_sel (q := (yX10_drawOfHundred, 6)) (List.mem_of_getElem? (i := 48) rfl) rfl
theorem vy_X10_drawOfHundred : pg_yV 10 yX10_drawOfHundred cX10_drawOfHundred 1 (some FieldType.int) := ⟨by decide, rfl, pw5_206, sl_X10_drawOfHundred, pw1_12, pw5_207⟩
theorem nd_X10_hasCopy : pg_nd yX10_hasCopy 1 := ⟨by decide +kernel, by decide +kernel, by decide +kernel⟩
theorem vy_X10_hasCopy : pg_yV 10 yX10_hasCopy cX10_hasCopy 2 (some FieldType.boolean) := ⟨by decide, rfl, pw5_201, pw5_202, pw1_12, pw5_203⟩
theorem nd_X10_hasNote : pg_nd yX10_hasNote 2 := ⟨by decide +kernel, by decide +kernel, by decide +kernel⟩
theorem sl_X10_hasNote : Cond.selects RX10 yX10_hasNote yX10_hasNote ∈ pg_W := pg_sel (q := (yX10_hasNote, 6)) (List.mem_of_getElem? (i := 51) rfl) rfl
theorem vy_X10_hasNote : pg_yV 10 yX10_hasNote cX10_hasNote 4 (some FieldType.boolean) := ⟨by decide, rfl, pw5_236, sl_X10_hasNote, pw1_12, pw5_237⟩
theorem nd_X10_holdersOfFirst : pg_nd yX10_holdersOfFirst 1 := ⟨by decide +kernel, by decide +kernel, by decide +kernel⟩
theorem vy_X10_holdersOfFirst : pg_yV 10 yX10_holdersOfFirst cX10_holdersOfFirst 5 (some FieldType.int) := ⟨by decide, rfl, pw5_231, pw5_232, pw1_12, pw5_233⟩
theorem nd_X10_init : pg_nd yX10_init 0 := ⟨by decide +kernel, by decide +kernel, by decide +kernel⟩
theorem vy_X10_init : pg_yI 10 yX10_init cX10_init 1 := ⟨by decide, rfl, rfl, pw2_52, pw1_12, pw2_53⟩
theorem nd_X10_nextCopy : pg_nd yX10_nextCopy 2 := ⟨by decide +kernel, by decide +kernel, by decide +kernel⟩
theorem sl_X10_nextCopy : Cond.selects RX10 yX10_nextCopy yX10_nextCopy ∈ pg_W := pg_sel (q := (yX10_nextCopy, 6)) (List.mem_of_getElem? (i := 46) rfl) rfl
theorem vy_X10_nextCopy : pg_yV 10 yX10_nextCopy cX10_nextCopy 5 (some FieldType.int) := ⟨by decide, rfl, pw5_186, sl_X10_nextCopy, pw1_12, pw5_187⟩
theorem nd_X10_notesCopied : pg_nd yX10_notesCopied 1 := ⟨by decide +kernel, by decide +kernel, by decide +kernel⟩
theorem vy_X10_notesCopied : pg_yV 10 yX10_notesCopied cX10_notesCopied 2 (some FieldType.int) := ⟨by decide, rfl, pw5_227, pw5_228, pw1_12, pw5_229⟩
theorem nd_X10_notesOf : pg_nd yX10_notesOf 1 := ⟨by decide +kernel, by decide +kernel, by decide +kernel⟩
theorem vy_X10_notesOf : pg_yV 10 yX10_notesOf cX10_notesOf 2 (some FieldType.int) := ⟨by decide, rfl, pw5_197, pw5_198, pw1_12, pw5_199⟩
theorem nd_X10_put : pg_nd yX10_put 2 := ⟨by decide +kernel, by decide +kernel, by decide +kernel⟩
theorem sl_X10_put : Cond.selects RX10 yX10_put yX10_put ∈ pg_W := pg_sel (q := (yX10_put, 6)) (List.mem_of_getElem? (i := 49) rfl) rfl
theorem vy_X10_put : pg_yV 10 yX10_put cX10_put 3 none := ⟨by decide, rfl, pw5_214, sl_X10_put, pw1_12, pw5_215⟩
theorem nd_X10_takeNotes : pg_nd yX10_takeNotes 4 := ⟨by decide +kernel, by decide +kernel, by decide +kernel⟩
theorem sl_X10_takeNotes : Cond.selects RX10 yX10_takeNotes yX10_takeNotes ∈ pg_W := pg_sel (q := (yX10_takeNotes, 6)) (List.mem_of_getElem? (i := 47) rfl) rfl
theorem vy_X10_takeNotes : pg_yV 10 yX10_takeNotes cX10_takeNotes 7 none := ⟨by decide, rfl, pw5_191, sl_X10_takeNotes, pw1_12, pw5_192⟩
theorem nd_X10_writeNotes : pg_nd yX10_writeNotes 3 := ⟨by decide +kernel, by decide +kernel, by decide +kernel⟩
theorem sl_X10_writeNotes : Cond.selects RX10 yX10_writeNotes yX10_writeNotes ∈ pg_W := pg_sel (q := (yX10_writeNotes, 6)) (List.mem_of_getElem? (i := 50) rfl) rfl
theorem vy_X10_writeNotes : pg_yV 10 yX10_writeNotes cX10_writeNotes 5 none := ⟨by decide, rfl, pw5_218, sl_X10_writeNotes, pw1_12, pw5_219⟩
theorem nd_X11_accept : pg_nd yX11_accept 1 := ⟨by decide +kernel, by decide +kernel, by decide +kernel⟩
theorem sl_X11_accept : Cond.selects RX11 yX11_accept yX11_accept ∈ pg_W := pg_sel (q := (yX11_accept, 16)) (List.mem_of_getElem? (i := 2) rfl) rfl
theorem vy_X11_accept : pg_yV 11 yX11_accept cX11_accept 2 (some FieldType.int) := ⟨by decide, rfl, pw2_142, sl_X11_accept, pw1_1, pw2_143⟩
theorem nd_X11_agree : pg_nd yX11_agree 2 := ⟨by decide +kernel, by decide +kernel, by decide +kernel⟩
theorem vy_X11_agree : pg_yV 11 yX11_agree cX11_agree 3 (some FieldType.int) := ⟨by decide, rfl, pw4_181, pw4_182, pw1_1, pw4_183⟩
theorem nd_X11_areTwoCopies : pg_nd yX11_areTwoCopies 2 := ⟨by decide +kernel, by decide +kernel, by decide +kernel⟩
theorem sl_X11_areTwoCopies : Cond.selects RX11 yX11_areTwoCopies yX11_areTwoCopies ∈ pg_W := pg_sel (q := (yX11_areTwoCopies, 16)) (List.mem_of_getElem? (i := 26) rfl) rfl
theorem vy_X11_areTwoCopies : pg_yV 11 yX11_areTwoCopies cX11_areTwoCopies 3 (some FieldType.boolean) := ⟨by decide, rfl, pw4_50, sl_X11_areTwoCopies, pw1_1, pw4_51⟩
theorem nd_X11_areYears : pg_nd yX11_areYears 2 := ⟨by decide +kernel, by decide +kernel, by decide +kernel⟩
theorem vy_X11_areYears : pg_yS yX11_areYears cX11_areYears 2 (some FieldType.boolean) := ⟨pw2_154, pw1_1, pw2_155⟩
theorem nd_X11_back : pg_nd yX11_back 1 := ⟨by decide +kernel, by decide +kernel, by decide +kernel⟩
theorem vy_X11_back : pg_yV 11 yX11_back cX11_back 2 (some FieldType.int) := ⟨by decide, rfl, pw6_14, pw6_15, pw1_1, pw6_16⟩
theorem nd_X11_censor : pg_nd yX11_censor 3 := ⟨by decide +kernel, by decide +kernel, by decide +kernel⟩
theorem vy_X11_censor : pg_yV 11 yX11_censor cX11_censor 10 (some FieldType.int) := ⟨by decide, rfl, pw5_134, pw5_135, pw1_1, pw5_136⟩
theorem nd_X11_changed : pg_nd yX11_changed 1 := ⟨by decide +kernel, by decide +kernel, by decide +kernel⟩
theorem sl_X11_changed : Cond.selects RX11 yX11_changed yX11_changed ∈ pg_W := pg_sel (q := (yX11_changed, 16)) (List.mem_of_getElem? (i := 1) rfl) rfl
theorem vy_X11_changed : pg_yV 11 yX11_changed cX11_changed 2 (some FieldType.int) := ⟨by decide, rfl, pw2_138, sl_X11_changed, pw1_1, pw2_139⟩
theorem nd_X11_chao : pg_nd yX11_chao 0 := ⟨by decide +kernel, by decide +kernel, by decide +kernel⟩
theorem vy_X11_chao : pg_yV 11 yX11_chao cX11_chao 6 (some FieldType.int) := ⟨by decide, rfl, pw5_130, pw5_131, pw1_1, pw5_132⟩
theorem nd_X11_come : pg_nd yX11_come 2 := ⟨by decide +kernel, by decide +kernel, by decide +kernel⟩
theorem vy_X11_come : pg_yV 11 yX11_come cX11_come 7 (some FieldType.int) := ⟨by decide, rfl, pw4_145, pw4_146, pw1_1, pw4_147⟩
theorem nd_X11_copy : pg_nd yX11_copy 2 := ⟨by decide +kernel, by decide +kernel, by decide +kernel⟩
theorem vy_X11_copy : pg_yV 11 yX11_copy cX11_copy 4 (some FieldType.int) := ⟨by decide, rfl, pw2_124, pw2_125, pw1_1, pw2_126⟩
theorem nd_X11_cost : pg_nd yX11_cost 2 := ⟨by decide +kernel, by decide +kernel, by decide +kernel⟩
theorem vy_X11_cost : pg_yV 11 yX11_cost cX11_cost 3 (some FieldType.int) := ⟨by decide, rfl, pw4_65, pw4_66, pw1_1, pw4_67⟩
theorem nd_X11_count : pg_nd yX11_count 1 := ⟨by decide +kernel, by decide +kernel, by decide +kernel⟩
theorem vy_X11_count : pg_yV 11 yX11_count cX11_count 2 (some FieldType.int) := ⟨by decide, rfl, pw6_18, pw6_19, pw1_1, pw6_20⟩
theorem nd_X11_dates : pg_nd yX11_dates 2 := ⟨by decide +kernel, by decide +kernel, by decide +kernel⟩
theorem vy_X11_dates : pg_yV 11 yX11_dates cX11_dates 4 (some FieldType.int) := ⟨by decide, rfl, pw5_46, pw5_47, pw1_1, pw5_48⟩
theorem nd_X11_end : pg_nd yX11_end 1 := ⟨by decide +kernel, by decide +kernel, by decide +kernel⟩
theorem vy_X11_end : pg_yV 11 yX11_end cX11_end 2 (some FieldType.int) := ⟨by decide, rfl, pw3_78, pw3_79, pw1_1, pw3_80⟩
theorem nd_X11_families : pg_nd yX11_families 0 := ⟨by decide +kernel, by decide +kernel, by decide +kernel⟩
theorem vy_X11_families : pg_yV 11 yX11_families cX11_families 2 (some FieldType.int) := ⟨by decide, rfl, pw4_189, pw4_190, pw1_1, pw4_191⟩
theorem nd_X11_family : pg_nd yX11_family 1 := ⟨by decide +kernel, by decide +kernel, by decide +kernel⟩
theorem vy_X11_family : pg_yV 11 yX11_family cX11_family 3 (some FieldType.int) := ⟨by decide, rfl, pw4_207, pw4_208, pw1_1, pw4_209⟩
theorem nd_X11_fault : pg_nd yX11_fault 0 := ⟨by decide +kernel, by decide +kernel, by decide +kernel⟩
theorem vy_X11_fault : pg_yV 11 yX11_fault cX11_fault 1 (some FieldType.int) := ⟨by decide, rfl, pw4_27, pw4_28, pw1_1, pw4_29⟩
theorem nd_X11_feed : pg_nd yX11_feed 5 := ⟨by decide +kernel, by decide +kernel, by decide +kernel⟩
theorem vy_X11_feed : pg_yV 11 yX11_feed cX11_feed 6 (some FieldType.int) := ⟨by decide, rfl, pw3_62, pw3_63, pw1_1, pw3_64⟩
theorem nd_X11_firstYearByTree : pg_nd yX11_firstYearByTree 2 := ⟨by decide +kernel, by decide +kernel, by decide +kernel⟩
theorem sl_X11_firstYearByTree : Cond.selects RX11 yX11_firstYearByTree yX11_firstYearByTree ∈ pg_W := pg_sel (q := (yX11_firstYearByTree, 16)) (List.mem_of_getElem? (i := 40) rfl) rfl
theorem vy_X11_firstYearByTree : pg_yV 11 yX11_firstYearByTree cX11_firstYearByTree 6 (some FieldType.int) := ⟨by decide, rfl, pw5_65, sl_X11_firstYearByTree, pw1_1, pw5_66⟩
theorem nd_X11_form : pg_nd yX11_form 3 := ⟨by decide +kernel, by decide +kernel, by decide +kernel⟩
theorem vy_X11_form : pg_yV 11 yX11_form cX11_form 4 (some FieldType.int) := ⟨by decide, rfl, pw2_165, pw2_166, pw1_1, pw2_167⟩
theorem nd_X11_freshReadings : pg_nd yX11_freshReadings 0 := ⟨by decide +kernel, by decide +kernel, by decide +kernel⟩
theorem sl_X11_freshReadings : Cond.selects RX11 yX11_freshReadings yX11_freshReadings ∈ pg_W := pg_sel (q := (yX11_freshReadings, 16)) (List.mem_of_getElem? (i := 3) rfl) rfl
theorem vy_X11_freshReadings : pg_yV 11 yX11_freshReadings cX11_freshReadings 1 (some (FieldType.object "SkyMargins$Readings")) := ⟨by decide, rfl, pw2_204, sl_X11_freshReadings, pw1_1, pw2_205⟩
theorem nd_X11_freshStemma : pg_nd yX11_freshStemma 0 := ⟨by decide +kernel, by decide +kernel, by decide +kernel⟩
theorem sl_X11_freshStemma : Cond.selects RX11 yX11_freshStemma yX11_freshStemma ∈ pg_W := pg_sel (q := (yX11_freshStemma, 16)) (List.mem_of_getElem? (i := 28) rfl) rfl
theorem vy_X11_freshStemma : pg_yV 11 yX11_freshStemma cX11_freshStemma 1 (some (FieldType.object "SkyMargins$Stemma")) := ⟨by decide, rfl, pw4_82, sl_X11_freshStemma, pw1_1, pw4_83⟩
theorem nd_X11_hand : pg_nd yX11_hand 2 := ⟨by decide +kernel, by decide +kernel, by decide +kernel⟩
theorem vy_X11_hand : pg_yV 11 yX11_hand cX11_hand 4 (some FieldType.int) := ⟨by decide, rfl, pw2_161, pw2_162, pw1_1, pw2_163⟩
theorem nd_X11_image : pg_nd yX11_image 1 := ⟨by decide +kernel, by decide +kernel, by decide +kernel⟩
theorem vy_X11_image : pg_yV 11 yX11_image cX11_image 2 (some FieldType.int) := ⟨by decide, rfl, pw5_239, pw6_0, pw1_1, pw6_1⟩
theorem nd_X11_init : pg_nd yX11_init 0 := ⟨by decide +kernel, by decide +kernel, by decide +kernel⟩
theorem vy_X11_init : pg_yI 11 yX11_init cX11_init 1 := ⟨by decide, rfl, rfl, pw1_26, pw1_1, pw1_27⟩
theorem nd_X11_isNote : pg_nd yX11_isNote 3 := ⟨by decide +kernel, by decide +kernel, by decide +kernel⟩
theorem vy_X11_isNote : pg_yS yX11_isNote cX11_isNote 3 (some FieldType.boolean) := ⟨pw2_177, pw1_1, pw2_178⟩
theorem nd_X11_joins : pg_nd yX11_joins 1 := ⟨by decide +kernel, by decide +kernel, by decide +kernel⟩
theorem vy_X11_joins : pg_yV 11 yX11_joins cX11_joins 5 (some FieldType.int) := ⟨by decide, rfl, pw4_215, pw4_216, pw1_1, pw4_217⟩
theorem nd_X11_lastBit : pg_nd yX11_lastBit 1 := ⟨by decide +kernel, by decide +kernel, by decide +kernel⟩
theorem vy_X11_lastBit : pg_yS yX11_lastBit cX11_lastBit 1 (some FieldType.int) := ⟨pw5_101, pw1_1, pw5_102⟩
theorem nd_X11_lastYearByTree : pg_nd yX11_lastYearByTree 2 := ⟨by decide +kernel, by decide +kernel, by decide +kernel⟩
theorem sl_X11_lastYearByTree : Cond.selects RX11 yX11_lastYearByTree yX11_lastYearByTree ∈ pg_W := pg_sel (q := (yX11_lastYearByTree, 16)) (List.mem_of_getElem? (i := 41) rfl) rfl
theorem vy_X11_lastYearByTree : pg_yV 11 yX11_lastYearByTree cX11_lastYearByTree 5 (some FieldType.int) := ⟨by decide, rfl, pw5_70, sl_X11_lastYearByTree, pw1_1, pw5_71⟩
theorem nd_X11_late : pg_nd yX11_late 2 := ⟨by decide +kernel, by decide +kernel, by decide +kernel⟩
theorem vy_X11_late : pg_yV 11 yX11_late cX11_late 7 (some FieldType.int) := ⟨by decide, rfl, pw5_158, pw5_159, pw1_1, pw5_160⟩
theorem nd_X11_look : pg_nd yX11_look 2 := ⟨by decide +kernel, by decide +kernel, by decide +kernel⟩
theorem vy_X11_look : pg_yV 11 yX11_look cX11_look 3 (some FieldType.int) := ⟨by decide, rfl, pw2_145, pw2_146, pw1_1, pw2_147⟩
theorem nd_X11_many : pg_nd yX11_many 2 := ⟨by decide +kernel, by decide +kernel, by decide +kernel⟩
theorem vy_X11_many : pg_yV 11 yX11_many cX11_many 10 (some FieldType.int) := ⟨by decide, rfl, pw5_126, pw5_127, pw1_1, pw5_128⟩
theorem nd_X11_may : pg_nd yX11_may 2 := ⟨by decide +kernel, by decide +kernel, by decide +kernel⟩
theorem vy_X11_may : pg_yV 11 yX11_may cX11_may 3 (some FieldType.int) := ⟨by decide, rfl, pw4_45, pw4_46, pw1_1, pw4_47⟩
theorem nd_X11_net : pg_nd yX11_net 2 := ⟨by decide +kernel, by decide +kernel, by decide +kernel⟩
theorem vy_X11_net : pg_yV 11 yX11_net cX11_net 6 (some FieldType.int) := ⟨by decide, rfl, pw4_157, pw4_158, pw1_1, pw4_159⟩
theorem nd_X11_next : pg_nd yX11_next 1 := ⟨by decide +kernel, by decide +kernel, by decide +kernel⟩
theorem vy_X11_next : pg_yV 11 yX11_next cX11_next 7 (some FieldType.int) := ⟨by decide, rfl, pw5_167, pw5_168, pw1_1, pw5_169⟩
theorem nd_X11_note : pg_nd yX11_note 5 := ⟨by decide +kernel, by decide +kernel, by decide +kernel⟩
theorem vy_X11_note : pg_yV 11 yX11_note cX11_note 7 (some FieldType.int) := ⟨by decide, rfl, pw2_173, pw2_174, pw1_1, pw2_175⟩
theorem nd_X11_of : pg_nd yX11_of 2 := ⟨by decide +kernel, by decide +kernel, by decide +kernel⟩
theorem vy_X11_of : pg_yV 11 yX11_of cX11_of 3 (some FieldType.int) := ⟨by decide, rfl, pw2_199, pw2_200, pw1_1, pw2_201⟩
theorem nd_X11_placesStruck : pg_nd yX11_placesStruck 1 := ⟨by decide +kernel, by decide +kernel, by decide +kernel⟩
theorem sl_X11_placesStruck : Cond.selects RX11 yX11_placesStruck yX11_placesStruck ∈ pg_W := pg_sel (q := (yX11_placesStruck, 16)) (List.mem_of_getElem? (i := 44) rfl) rfl
theorem vy_X11_placesStruck : pg_yV 11 yX11_placesStruck cX11_placesStruck 5 (some FieldType.long) := ⟨by decide, rfl, pw5_139, sl_X11_placesStruck, pw1_1, pw5_140⟩
theorem nd_X11_read : pg_nd yX11_read 2 := ⟨by decide +kernel, by decide +kernel, by decide +kernel⟩
theorem vy_X11_read : pg_yV 11 yX11_read cX11_read 3 (some FieldType.int) := ⟨by decide, rfl, pw5_74, pw5_75, pw1_1, pw5_76⟩
theorem nd_X11_refuse : pg_nd yX11_refuse 1 := ⟨by decide +kernel, by decide +kernel, by decide +kernel⟩
theorem sl_X11_refuse : Cond.selects RX11 yX11_refuse yX11_refuse ∈ pg_W := pg_sel (q := (yX11_refuse, 16)) (List.mem_of_getElem? (i := 0) rfl) rfl
theorem vy_X11_refuse : pg_yV 11 yX11_refuse cX11_refuse 2 (some FieldType.int) := ⟨by decide, rfl, pw2_132, sl_X11_refuse, pw1_1, pw2_133⟩
theorem nd_X11_row : pg_nd yX11_row 1 := ⟨by decide +kernel, by decide +kernel, by decide +kernel⟩
theorem vy_X11_row : pg_yV 11 yX11_row cX11_row 6 (some FieldType.int) := ⟨by decide, rfl, pw3_90, pw3_91, pw1_1, pw3_92⟩
theorem nd_X11_run : pg_nd yX11_run 1 := ⟨by decide +kernel, by decide +kernel, by decide +kernel⟩
theorem vy_X11_run : pg_yV 11 yX11_run cX11_run 2 (some FieldType.int) := ⟨by decide, rfl, pw5_175, pw5_176, pw1_1, pw5_177⟩
theorem nd_X11_sample : pg_nd yX11_sample 3 := ⟨by decide +kernel, by decide +kernel, by decide +kernel⟩
theorem vy_X11_sample : pg_yV 11 yX11_sample cX11_sample 4 (some FieldType.int) := ⟨by decide, rfl, pw2_169, pw2_170, pw1_1, pw2_171⟩
theorem nd_X11_status : pg_nd yX11_status 0 := ⟨by decide +kernel, by decide +kernel, by decide +kernel⟩
theorem vy_X11_status : pg_yV 11 yX11_status cX11_status 1 (some FieldType.int) := ⟨by decide, rfl, pw6_26, pw6_27, pw1_1, pw6_28⟩
theorem nd_X11_stay : pg_nd yX11_stay 4 := ⟨by decide +kernel, by decide +kernel, by decide +kernel⟩
theorem vy_X11_stay : pg_yV 11 yX11_stay cX11_stay 6 (some FieldType.int) := ⟨by decide, rfl, pw2_150, pw2_151, pw1_1, pw2_152⟩
theorem nd_X11_stops : pg_nd yX11_stops 2 := ⟨by decide +kernel, by decide +kernel, by decide +kernel⟩
theorem vy_X11_stops : pg_yV 11 yX11_stops cX11_stops 4 (some FieldType.int) := ⟨by decide, rfl, pw5_120, pw5_121, pw1_1, pw5_122⟩
theorem nd_X11_sure : pg_nd yX11_sure 1 := ⟨by decide +kernel, by decide +kernel, by decide +kernel⟩
theorem vy_X11_sure : pg_yV 11 yX11_sure cX11_sure 2 (some FieldType.int) := ⟨by decide, rfl, pw4_136, pw4_137, pw1_1, pw4_138⟩
theorem nd_X11_takeFromRow : pg_nd yX11_takeFromRow 2 := ⟨by decide +kernel, by decide +kernel, by decide +kernel⟩
theorem sl_X11_takeFromRow : Cond.selects RX11 yX11_takeFromRow yX11_takeFromRow ∈ pg_W := pg_sel (q := (yX11_takeFromRow, 16)) (List.mem_of_getElem? (i := 10) rfl) rfl
theorem vy_X11_takeFromRow : pg_yV 11 yX11_takeFromRow cX11_takeFromRow 7 (some FieldType.boolean) := ⟨by decide, rfl, pw3_95, sl_X11_takeFromRow, pw1_1, pw3_96⟩
theorem nd_X11_terms : pg_nd yX11_terms 2 := ⟨by decide +kernel, by decide +kernel, by decide +kernel⟩
theorem vy_X11_terms : pg_yV 11 yX11_terms cX11_terms 4 (some FieldType.int) := ⟨by decide, rfl, pw3_54, pw3_55, pw1_1, pw3_56⟩
theorem nd_X11_text : pg_nd yX11_text 0 := ⟨by decide +kernel, by decide +kernel, by decide +kernel⟩
theorem vy_X11_text : pg_yV 11 yX11_text cX11_text 2 (some FieldType.int) := ⟨by decide, rfl, pw3_106, pw3_107, pw1_1, pw3_108⟩
theorem nd_X11_times : pg_nd yX11_times 3 := ⟨by decide +kernel, by decide +kernel, by decide +kernel⟩
theorem vy_X11_times : pg_yV 11 yX11_times cX11_times 4 (some FieldType.int) := ⟨by decide, rfl, pw4_219, pw4_220, pw1_1, pw4_221⟩
theorem nd_X11_toldOfCensor : pg_nd yX11_toldOfCensor 3 := ⟨by decide +kernel, by decide +kernel, by decide +kernel⟩
theorem sl_X11_toldOfCensor : Cond.selects RX11 yX11_toldOfCensor yX11_toldOfCensor ∈ pg_W := pg_sel (q := (yX11_toldOfCensor, 16)) (List.mem_of_getElem? (i := 45) rfl) rfl
theorem vy_X11_toldOfCensor : pg_yV 11 yX11_toldOfCensor cX11_toldOfCensor 12 (some FieldType.int) := ⟨by decide, rfl, pw5_148, sl_X11_toldOfCensor, pw1_1, pw5_149⟩
theorem nd_X11_towns : pg_nd yX11_towns 1 := ⟨by decide +kernel, by decide +kernel, by decide +kernel⟩
theorem vy_X11_towns : pg_yV 11 yX11_towns cX11_towns 8 (some FieldType.int) := ⟨by decide, rfl, pw5_38, pw5_39, pw1_1, pw5_40⟩
theorem nd_X11_tree : pg_nd yX11_tree 0 := ⟨by decide +kernel, by decide +kernel, by decide +kernel⟩
theorem vy_X11_tree : pg_yV 11 yX11_tree cX11_tree 1 (some FieldType.int) := ⟨by decide, rfl, pw4_77, pw4_78, pw1_1, pw4_79⟩
theorem nd_X11_trimmed : pg_nd yX11_trimmed 0 := ⟨by decide +kernel, by decide +kernel, by decide +kernel⟩
theorem vy_X11_trimmed : pg_yV 11 yX11_trimmed cX11_trimmed 1 (some FieldType.int) := ⟨by decide, rfl, pw3_102, pw3_103, pw1_1, pw3_104⟩
theorem nd_X11_use : pg_nd yX11_use 1 := ⟨by decide +kernel, by decide +kernel, by decide +kernel⟩
theorem vy_X11_use : pg_yV 11 yX11_use cX11_use 3 (some FieldType.int) := ⟨by decide, rfl, pw4_31, pw4_32, pw1_1, pw4_33⟩
theorem nd_X11_weight : pg_nd yX11_weight 2 := ⟨by decide +kernel, by decide +kernel, by decide +kernel⟩
theorem vy_X11_weight : pg_yV 11 yX11_weight cX11_weight 4 (some FieldType.int) := ⟨by decide, rfl, pw4_36, pw4_37, pw1_1, pw4_38⟩
theorem nd_X11_whose : pg_nd yX11_whose 1 := ⟨by decide +kernel, by decide +kernel, by decide +kernel⟩
theorem vy_X11_whose : pg_yV 11 yX11_whose cX11_whose 3 (some FieldType.int) := ⟨by decide, rfl, pw4_128, pw4_129, pw1_1, pw4_130⟩
theorem nd_X11_within : pg_nd yX11_within 3 := ⟨by decide +kernel, by decide +kernel, by decide +kernel⟩
theorem vy_X11_within : pg_yS yX11_within cX11_within 3 (some FieldType.boolean) := ⟨pw2_128, pw1_1, pw2_129⟩
theorem nd_X11_world : pg_nd yX11_world 2 := ⟨by decide +kernel, by decide +kernel, by decide +kernel⟩
theorem vy_X11_world : pg_yV 11 yX11_world cX11_world 3 (some FieldType.int) := ⟨by decide, rfl, pw5_221, pw5_222, pw1_1, pw5_223⟩
theorem nd_X11_written : pg_nd yX11_written 1 := ⟨by decide +kernel, by decide +kernel, by decide +kernel⟩
theorem vy_X11_written : pg_yV 11 yX11_written cX11_written 2 (some FieldType.int) := ⟨by decide, rfl, pw5_29, pw5_30, pw1_1, pw5_31⟩
theorem nd_X12_adds : pg_nd yX12_adds 2 := ⟨by decide +kernel, by decide +kernel, by decide +kernel⟩
theorem vy_X12_adds : pg_yS yX12_adds cX12_adds 7 none := ⟨pw8_146, pw1_13, pw8_147⟩
theorem nd_X12_agree : pg_nd yX12_agree 2 := ⟨by decide +kernel, by decide +kernel, by decide +kernel⟩
theorem vy_X12_agree : pg_yV 12 yX12_agree cX12_agree 3 (some FieldType.int) := ⟨by decide, rfl, pw8_36, pw8_37, pw1_13, pw8_38⟩
theorem nd_X12_agreeOf : pg_nd yX12_agreeOf 2 := ⟨by decide +kernel, by decide +kernel, by decide +kernel⟩
theorem sl_X12_agreeOf : Cond.selects RX12 yX12_agreeOf yX12_agreeOf ∈ pg_W := pg_sel (q := (yX12_agreeOf, 46)) (List.mem_of_getElem? (i := 106) rfl) rfl
theorem vy_X12_agreeOf : pg_yV 12 yX12_agreeOf cX12_agreeOf 5 (some FieldType.int) := ⟨by decide, rfl, pw8_41, sl_X12_agreeOf, pw1_13, pw8_42⟩
theorem nd_X12_areYears : pg_nd yX12_areYears 2 := ⟨by decide +kernel, by decide +kernel, by decide +kernel⟩
theorem vy_X12_areYears : pg_yS yX12_areYears cX12_areYears 2 (some FieldType.boolean) := ⟨pw6_218, pw1_13, pw6_219⟩
theorem nd_X12_asks : pg_nd yX12_asks 2 := ⟨by decide +kernel, by decide +kernel, by decide +kernel⟩
theorem sl_X12_asks : Cond.selects RX12 yX12_asks yX12_asks ∈ pg_W := pg_sel (q := (yX12_asks, 46)) (List.mem_of_getElem? (i := 82) rfl) rfl
theorem vy_X12_asks : pg_yV 12 yX12_asks cX12_asks 8 none := ⟨by decide, rfl, pw7_148, sl_X12_asks, pw1_13, pw7_149⟩
theorem nd_X12_asksCopy : pg_nd yX12_asksCopy 2 := ⟨by decide +kernel, by decide +kernel, by decide +kernel⟩
theorem sl_X12_asksCopy : Cond.selects RX12 yX12_asksCopy yX12_asksCopy ∈ pg_W := pg_sel (q := (yX12_asksCopy, 46)) (List.mem_of_getElem? (i := 117) rfl) rfl
theorem vy_X12_asksCopy : pg_yV 12 yX12_asksCopy cX12_asksCopy 3 none := ⟨by decide, rfl, pw8_131, sl_X12_asksCopy, pw1_13, pw8_132⟩
theorem nd_X12_back : pg_nd yX12_back 1 := ⟨by decide +kernel, by decide +kernel, by decide +kernel⟩
theorem vy_X12_back : pg_yV 12 yX12_back cX12_back 3 (some FieldType.int) := ⟨by decide, rfl, pw6_190, pw6_191, pw1_13, pw6_192⟩
theorem nd_X12_bare : pg_nd yX12_bare 0 := ⟨by decide +kernel, by decide +kernel, by decide +kernel⟩
theorem sl_X12_bare : Cond.selects RX12 yX12_bare yX12_bare ∈ pg_W := pg_sel (q := (yX12_bare, 46)) (List.mem_of_getElem? (i := 81) rfl) rfl
theorem vy_X12_bare : pg_yV 12 yX12_bare cX12_bare 2 none := ⟨by decide, rfl, pw7_144, sl_X12_bare, pw1_13, pw7_145⟩
theorem nd_X12_be : pg_nd yX12_be 2 := ⟨by decide +kernel, by decide +kernel, by decide +kernel⟩
theorem vy_X12_be : pg_yS yX12_be cX12_be 4 none := ⟨pw8_72, pw1_13, pw8_73⟩
theorem nd_X12_bothOf : pg_nd yX12_bothOf 1 := ⟨by decide +kernel, by decide +kernel, by decide +kernel⟩
theorem sl_X12_bothOf : Cond.selects RX12 yX12_bothOf yX12_bothOf ∈ pg_W := pg_sel (q := (yX12_bothOf, 46)) (List.mem_of_getElem? (i := 90) rfl) rfl
theorem vy_X12_bothOf : pg_yV 12 yX12_bothOf cX12_bothOf 4 (some FieldType.boolean) := ⟨by decide, rfl, pw7_182, sl_X12_bothOf, pw1_13, pw7_183⟩
theorem nd_X12_bounded : pg_nd yX12_bounded 2 := ⟨by decide +kernel, by decide +kernel, by decide +kernel⟩
theorem sl_X12_bounded : Cond.selects RX12 yX12_bounded yX12_bounded ∈ pg_W := pg_sel (q := (yX12_bounded, 46)) (List.mem_of_getElem? (i := 88) rfl) rfl
theorem vy_X12_bounded : pg_yV 12 yX12_bounded cX12_bounded 4 (some FieldType.long) := ⟨by decide, rfl, pw7_172, sl_X12_bounded, pw1_13, pw7_173⟩
theorem nd_X12_canMeet : pg_nd yX12_canMeet 2 := ⟨by decide +kernel, by decide +kernel, by decide +kernel⟩
theorem sl_X12_canMeet : Cond.selects RX12 yX12_canMeet yX12_canMeet ∈ pg_W := pg_sel (q := (yX12_canMeet, 46)) (List.mem_of_getElem? (i := 93) rfl) rfl
theorem vy_X12_canMeet : pg_yV 12 yX12_canMeet cX12_canMeet 5 (some FieldType.boolean) := ⟨by decide, rfl, pw7_199, sl_X12_canMeet, pw1_13, pw7_200⟩
theorem nd_X12_censor : pg_nd yX12_censor 3 := ⟨by decide +kernel, by decide +kernel, by decide +kernel⟩
theorem vy_X12_censor : pg_yV 12 yX12_censor cX12_censor 13 (some FieldType.int) := ⟨by decide, rfl, pw8_161, pw8_162, pw1_13, pw8_163⟩
theorem nd_X12_chanceOf : pg_nd yX12_chanceOf 2 := ⟨by decide +kernel, by decide +kernel, by decide +kernel⟩
theorem sl_X12_chanceOf : Cond.selects RX12 yX12_chanceOf yX12_chanceOf ∈ pg_W := pg_sel (q := (yX12_chanceOf, 46)) (List.mem_of_getElem? (i := 120) rfl) rfl
theorem vy_X12_chanceOf : pg_yV 12 yX12_chanceOf cX12_chanceOf 5 none := ⟨by decide, rfl, pw8_143, sl_X12_chanceOf, pw1_13, pw8_144⟩
theorem nd_X12_chao : pg_nd yX12_chao 0 := ⟨by decide +kernel, by decide +kernel, by decide +kernel⟩
theorem vy_X12_chao : pg_yV 12 yX12_chao cX12_chao 7 (some FieldType.int) := ⟨by decide, rfl, pw8_157, pw8_158, pw1_13, pw8_159⟩
theorem nd_X12_cheapest : pg_nd yX12_cheapest 0 := ⟨by decide +kernel, by decide +kernel, by decide +kernel⟩
theorem sl_X12_cheapest : Cond.selects RX12 yX12_cheapest yX12_cheapest ∈ pg_W := pg_sel (q := (yX12_cheapest, 46)) (List.mem_of_getElem? (i := 101) rfl) rfl
theorem vy_X12_cheapest : pg_yV 12 yX12_cheapest cX12_cheapest 5 (some FieldType.int) := ⟨by decide, rfl, pw7_239, sl_X12_cheapest, pw1_13, pw8_0⟩
theorem nd_X12_cheapestOf : pg_nd yX12_cheapestOf 2 := ⟨by decide +kernel, by decide +kernel, by decide +kernel⟩
theorem sl_X12_cheapestOf : Cond.selects RX12 yX12_cheapestOf yX12_cheapestOf ∈ pg_W := pg_sel (q := (yX12_cheapestOf, 46)) (List.mem_of_getElem? (i := 102) rfl) rfl
theorem vy_X12_cheapestOf : pg_yV 12 yX12_cheapestOf cX12_cheapestOf 5 (some FieldType.int) := ⟨by decide, rfl, pw8_4, sl_X12_cheapestOf, pw1_13, pw8_5⟩
theorem nd_X12_codeAt : pg_nd yX12_codeAt 1 := ⟨by decide +kernel, by decide +kernel, by decide +kernel⟩
theorem sl_X12_codeAt : Cond.selects RX12 yX12_codeAt yX12_codeAt ∈ pg_W := pg_sel (q := (yX12_codeAt, 46)) (List.mem_of_getElem? (i := 83) rfl) rfl
theorem vy_X12_codeAt : pg_yV 12 yX12_codeAt cX12_codeAt 2 (some FieldType.int) := ⟨by decide, rfl, pw7_152, sl_X12_codeAt, pw1_13, pw7_153⟩
theorem nd_X12_come : pg_nd yX12_come 2 := ⟨by decide +kernel, by decide +kernel, by decide +kernel⟩
theorem vy_X12_come : pg_yV 12 yX12_come cX12_come 5 (some FieldType.int) := ⟨by decide, rfl, pw8_19, pw8_20, pw1_13, pw8_21⟩
theorem nd_X12_comesOf : pg_nd yX12_comesOf 2 := ⟨by decide +kernel, by decide +kernel, by decide +kernel⟩
theorem sl_X12_comesOf : Cond.selects RX12 yX12_comesOf yX12_comesOf ∈ pg_W := pg_sel (q := (yX12_comesOf, 46)) (List.mem_of_getElem? (i := 105) rfl) rfl
theorem vy_X12_comesOf : pg_yV 12 yX12_comesOf cX12_comesOf 5 (some FieldType.boolean) := ⟨by decide, rfl, pw8_28, sl_X12_comesOf, pw1_13, pw8_29⟩
theorem nd_X12_copies : pg_nd yX12_copies 0 := ⟨by decide +kernel, by decide +kernel, by decide +kernel⟩
theorem sl_X12_copies : Cond.selects RX12 yX12_copies yX12_copies ∈ pg_W := pg_sel (q := (yX12_copies, 46)) (List.mem_of_getElem? (i := 54) rfl) rfl
theorem vy_X12_copies : pg_yV 12 yX12_copies cX12_copies 1 (some FieldType.int) := ⟨by decide, rfl, pw6_199, sl_X12_copies, pw1_13, pw6_200⟩
theorem nd_X12_copy : pg_nd yX12_copy 2 := ⟨by decide +kernel, by decide +kernel, by decide +kernel⟩
theorem vy_X12_copy : pg_yV 12 yX12_copy cX12_copy 4 (some FieldType.int) := ⟨by decide, rfl, pw6_194, pw6_195, pw1_13, pw6_196⟩
theorem nd_X12_copyOf : pg_nd yX12_copyOf 2 := ⟨by decide +kernel, by decide +kernel, by decide +kernel⟩
theorem sl_X12_copyOf : Cond.selects RX12 yX12_copyOf yX12_copyOf ∈ pg_W := pg_sel (q := (yX12_copyOf, 46)) (List.mem_of_getElem? (i := 118) rfl) rfl
theorem vy_X12_copyOf : pg_yV 12 yX12_copyOf cX12_copyOf 3 (some FieldType.int) := ⟨by decide, rfl, pw8_135, sl_X12_copyOf, pw1_13, pw8_136⟩
theorem nd_X12_cost : pg_nd yX12_cost 2 := ⟨by decide +kernel, by decide +kernel, by decide +kernel⟩
theorem vy_X12_cost : pg_yV 12 yX12_cost cX12_cost 3 (some FieldType.int) := ⟨by decide, rfl, pw7_210, pw7_211, pw1_13, pw7_212⟩
theorem nd_X12_costAlone : pg_nd yX12_costAlone 1 := ⟨by decide +kernel, by decide +kernel, by decide +kernel⟩
theorem sl_X12_costAlone : Cond.selects RX12 yX12_costAlone yX12_costAlone ∈ pg_W := pg_sel (q := (yX12_costAlone, 46)) (List.mem_of_getElem? (i := 97) rfl) rfl
theorem vy_X12_costAlone : pg_yV 12 yX12_costAlone cX12_costAlone 4 (some FieldType.int) := ⟨by decide, rfl, pw7_219, sl_X12_costAlone, pw1_13, pw7_220⟩
theorem nd_X12_costFrom : pg_nd yX12_costFrom 3 := ⟨by decide +kernel, by decide +kernel, by decide +kernel⟩
theorem sl_X12_costFrom : Cond.selects RX12 yX12_costFrom yX12_costFrom ∈ pg_W := pg_sel (q := (yX12_costFrom, 46)) (List.mem_of_getElem? (i := 99) rfl) rfl
theorem vy_X12_costFrom : pg_yV 12 yX12_costFrom cX12_costFrom 11 (some FieldType.int) := ⟨by decide, rfl, pw7_227, sl_X12_costFrom, pw1_13, pw7_228⟩
theorem nd_X12_count : pg_nd yX12_count 1 := ⟨by decide +kernel, by decide +kernel, by decide +kernel⟩
theorem vy_X12_count : pg_yV 12 yX12_count cX12_count 5 (some FieldType.int) := ⟨by decide, rfl, pw8_200, pw8_201, pw1_13, pw8_202⟩
theorem nd_X12_dates : pg_nd yX12_dates 2 := ⟨by decide +kernel, by decide +kernel, by decide +kernel⟩
theorem vy_X12_dates : pg_yV 12 yX12_dates cX12_dates 5 (some FieldType.int) := ⟨by decide, rfl, pw8_106, pw8_107, pw1_13, pw8_108⟩
theorem nd_X12_draw : pg_nd yX12_draw 2 := ⟨by decide +kernel, by decide +kernel, by decide +kernel⟩
theorem sl_X12_draw : Cond.selects RX12 yX12_draw yX12_draw ∈ pg_W := pg_sel (q := (yX12_draw, 46)) (List.mem_of_getElem? (i := 123) rfl) rfl
theorem vy_X12_draw : pg_yV 12 yX12_draw cX12_draw 8 none := ⟨by decide, rfl, pw8_182, sl_X12_draw, pw1_13, pw8_183⟩
theorem nd_X12_draws : pg_nd yX12_draws 1 := ⟨by decide +kernel, by decide +kernel, by decide +kernel⟩
theorem sl_X12_draws : Cond.selects RX12 yX12_draws yX12_draws ∈ pg_W := pg_sel (q := (yX12_draws, 46)) (List.mem_of_getElem? (i := 124) rfl) rfl
theorem vy_X12_draws : pg_yV 12 yX12_draws cX12_draws 2 (some FieldType.int) := ⟨by decide, rfl, pw8_186, sl_X12_draws, pw1_13, pw8_187⟩
theorem nd_X12_end : pg_nd yX12_end 1 := ⟨by decide +kernel, by decide +kernel, by decide +kernel⟩
theorem vy_X12_end : pg_yV 12 yX12_end cX12_end 2 (some FieldType.int) := ⟨by decide, rfl, pw7_45, pw7_46, pw1_13, pw7_47⟩
theorem nd_X12_families : pg_nd yX12_families 0 := ⟨by decide +kernel, by decide +kernel, by decide +kernel⟩
theorem vy_X12_families : pg_yV 12 yX12_families cX12_families 1 (some FieldType.int) := ⟨by decide, rfl, pw8_44, pw8_45, pw1_13, pw8_46⟩
theorem nd_X12_familiesBut : pg_nd yX12_familiesBut 1 := ⟨by decide +kernel, by decide +kernel, by decide +kernel⟩
theorem sl_X12_familiesBut : Cond.selects RX12 yX12_familiesBut yX12_familiesBut ∈ pg_W := pg_sel (q := (yX12_familiesBut, 46)) (List.mem_of_getElem? (i := 108) rfl) rfl
theorem vy_X12_familiesBut : pg_yV 12 yX12_familiesBut cX12_familiesBut 6 (some FieldType.int) := ⟨by decide, rfl, pw8_53, sl_X12_familiesBut, pw1_13, pw8_54⟩
theorem nd_X12_family : pg_nd yX12_family 1 := ⟨by decide +kernel, by decide +kernel, by decide +kernel⟩
theorem vy_X12_family : pg_yV 12 yX12_family cX12_family 2 (some FieldType.int) := ⟨by decide, rfl, pw8_56, pw8_57, pw1_13, pw8_58⟩
theorem nd_X12_fault : pg_nd yX12_fault 0 := ⟨by decide +kernel, by decide +kernel, by decide +kernel⟩
theorem vy_X12_fault : pg_yV 12 yX12_fault cX12_fault 1 (some FieldType.int) := ⟨by decide, rfl, pw7_123, pw7_124, pw1_13, pw7_125⟩
theorem nd_X12_faults : pg_nd yX12_faults 0 := ⟨by decide +kernel, by decide +kernel, by decide +kernel⟩
theorem sl_X12_faults : Cond.selects RX12 yX12_faults yX12_faults ∈ pg_W := pg_sel (q := (yX12_faults, 46)) (List.mem_of_getElem? (i := 73) rfl) rfl
theorem vy_X12_faults : pg_yV 12 yX12_faults cX12_faults 1 none := ⟨by decide, rfl, pw7_100, sl_X12_faults, pw1_13, pw7_101⟩
theorem nd_X12_feed : pg_nd yX12_feed 5 := ⟨by decide +kernel, by decide +kernel, by decide +kernel⟩
theorem vy_X12_feed : pg_yV 12 yX12_feed cX12_feed 7 (some FieldType.int) := ⟨by decide, rfl, pw7_41, pw7_42, pw1_13, pw7_43⟩
theorem nd_X12_fine : pg_nd yX12_fine 0 := ⟨by decide +kernel, by decide +kernel, by decide +kernel⟩
theorem sl_X12_fine : Cond.selects RX12 yX12_fine yX12_fine ∈ pg_W := pg_sel (q := (yX12_fine, 46)) (List.mem_of_getElem? (i := 69) rfl) rfl
theorem vy_X12_fine : pg_yV 12 yX12_fine cX12_fine 1 (some FieldType.boolean) := ⟨by decide, rfl, pw7_81, sl_X12_fine, pw1_13, pw7_82⟩
theorem nd_X12_form : pg_nd yX12_form 3 := ⟨by decide +kernel, by decide +kernel, by decide +kernel⟩
theorem vy_X12_form : pg_yV 12 yX12_form cX12_form 4 (some FieldType.int) := ⟨by decide, rfl, pw6_225, pw6_226, pw1_13, pw6_227⟩
theorem nd_X12_formsOf : pg_nd yX12_formsOf 1 := ⟨by decide +kernel, by decide +kernel, by decide +kernel⟩
theorem sl_X12_formsOf : Cond.selects RX12 yX12_formsOf yX12_formsOf ∈ pg_W := pg_sel (q := (yX12_formsOf, 46)) (List.mem_of_getElem? (i := 111) rfl) rfl
theorem vy_X12_formsOf : pg_yV 12 yX12_formsOf cX12_formsOf 4 (some FieldType.int) := ⟨by decide, rfl, pw8_84, sl_X12_formsOf, pw1_13, pw8_85⟩
theorem nd_X12_fromOf : pg_nd yX12_fromOf 1 := ⟨by decide +kernel, by decide +kernel, by decide +kernel⟩
theorem sl_X12_fromOf : Cond.selects RX12 yX12_fromOf yX12_fromOf ∈ pg_W := pg_sel (q := (yX12_fromOf, 46)) (List.mem_of_getElem? (i := 114) rfl) rfl
theorem vy_X12_fromOf : pg_yV 12 yX12_fromOf cX12_fromOf 5 (some FieldType.int) := ⟨by decide, rfl, pw8_111, sl_X12_fromOf, pw1_13, pw8_112⟩
theorem nd_X12_good : pg_nd yX12_good 1 := ⟨by decide +kernel, by decide +kernel, by decide +kernel⟩
theorem sl_X12_good : Cond.selects RX12 yX12_good yX12_good ∈ pg_W := pg_sel (q := (yX12_good, 46)) (List.mem_of_getElem? (i := 53) rfl) rfl
theorem vy_X12_good : pg_yV 12 yX12_good cX12_good 2 (some FieldType.int) := ⟨by decide, rfl, pw6_187, sl_X12_good, pw1_13, pw6_188⟩
theorem nd_X12_grows : pg_nd yX12_grows 0 := ⟨by decide +kernel, by decide +kernel, by decide +kernel⟩
theorem sl_X12_grows : Cond.selects RX12 yX12_grows yX12_grows ∈ pg_W := pg_sel (q := (yX12_grows, 46)) (List.mem_of_getElem? (i := 103) rfl) rfl
theorem vy_X12_grows : pg_yV 12 yX12_grows cX12_grows 6 none := ⟨by decide, rfl, pw8_12, sl_X12_grows, pw1_13, pw8_13⟩
theorem nd_X12_hand : pg_nd yX12_hand 2 := ⟨by decide +kernel, by decide +kernel, by decide +kernel⟩
theorem vy_X12_hand : pg_yV 12 yX12_hand cX12_hand 5 (some FieldType.int) := ⟨by decide, rfl, pw6_221, pw6_222, pw1_13, pw6_223⟩
theorem nd_X12_handOf : pg_nd yX12_handOf 2 := ⟨by decide +kernel, by decide +kernel, by decide +kernel⟩
theorem sl_X12_handOf : Cond.selects RX12 yX12_handOf yX12_handOf ∈ pg_W := pg_sel (q := (yX12_handOf, 46)) (List.mem_of_getElem? (i := 110) rfl) rfl
theorem vy_X12_handOf : pg_yV 12 yX12_handOf cX12_handOf 3 (some FieldType.int) := ⟨by decide, rfl, pw8_76, sl_X12_handOf, pw1_13, pw8_77⟩
theorem nd_X12_has : pg_nd yX12_has 3 := ⟨by decide +kernel, by decide +kernel, by decide +kernel⟩
theorem sl_X12_has : Cond.selects RX12 yX12_has yX12_has ∈ pg_W := pg_sel (q := (yX12_has, 46)) (List.mem_of_getElem? (i := 59) rfl) rfl
theorem vy_X12_has : pg_yV 12 yX12_has cX12_has 5 (some FieldType.boolean) := ⟨by decide, rfl, pw7_6, sl_X12_has, pw1_13, pw7_7⟩
theorem nd_X12_hasIt : pg_nd yX12_hasIt 4 := ⟨by decide +kernel, by decide +kernel, by decide +kernel⟩
theorem sl_X12_hasIt : Cond.selects RX12 yX12_hasIt yX12_hasIt ∈ pg_W := pg_sel (q := (yX12_hasIt, 46)) (List.mem_of_getElem? (i := 58) rfl) rfl
theorem vy_X12_hasIt : pg_yV 12 yX12_hasIt cX12_hasIt 5 (some FieldType.boolean) := ⟨by decide, rfl, pw7_2, sl_X12_hasIt, pw1_13, pw7_3⟩
theorem nd_X12_hasKind : pg_nd yX12_hasKind 3 := ⟨by decide +kernel, by decide +kernel, by decide +kernel⟩
theorem sl_X12_hasKind : Cond.selects RX12 yX12_hasKind yX12_hasKind ∈ pg_W := pg_sel (q := (yX12_hasKind, 46)) (List.mem_of_getElem? (i := 61) rfl) rfl
theorem vy_X12_hasKind : pg_yV 12 yX12_hasKind cX12_hasKind 5 (some FieldType.boolean) := ⟨by decide, rfl, pw7_14, sl_X12_hasKind, pw1_13, pw7_15⟩
theorem nd_X12_hasStays : pg_nd yX12_hasStays 1 := ⟨by decide +kernel, by decide +kernel, by decide +kernel⟩
theorem sl_X12_hasStays : Cond.selects RX12 yX12_hasStays yX12_hasStays ∈ pg_W := pg_sel (q := (yX12_hasStays, 46)) (List.mem_of_getElem? (i := 94) rfl) rfl
theorem vy_X12_hasStays : pg_yV 12 yX12_hasStays cX12_hasStays 3 (some FieldType.boolean) := ⟨by decide, rfl, pw7_203, sl_X12_hasStays, pw1_13, pw7_204⟩
theorem nd_X12_hasWorld : pg_nd yX12_hasWorld 2 := ⟨by decide +kernel, by decide +kernel, by decide +kernel⟩
theorem sl_X12_hasWorld : Cond.selects RX12 yX12_hasWorld yX12_hasWorld ∈ pg_W := pg_sel (q := (yX12_hasWorld, 46)) (List.mem_of_getElem? (i := 125) rfl) rfl
theorem vy_X12_hasWorld : pg_yV 12 yX12_hasWorld cX12_hasWorld 5 (some FieldType.boolean) := ⟨by decide, rfl, pw8_197, sl_X12_hasWorld, pw1_13, pw8_198⟩
theorem nd_X12_hundredth : pg_nd yX12_hundredth 1 := ⟨by decide +kernel, by decide +kernel, by decide +kernel⟩
theorem sl_X12_hundredth : Cond.selects RX12 yX12_hundredth yX12_hundredth ∈ pg_W := pg_sel (q := (yX12_hundredth, 46)) (List.mem_of_getElem? (i := 119) rfl) rfl
theorem vy_X12_hundredth : pg_yV 12 yX12_hundredth cX12_hundredth 2 (some FieldType.int) := ⟨by decide, rfl, pw8_139, sl_X12_hundredth, pw1_13, pw8_140⟩
theorem nd_X12_image : pg_nd yX12_image 1 := ⟨by decide +kernel, by decide +kernel, by decide +kernel⟩
theorem vy_X12_image : pg_yV 12 yX12_image cX12_image 3 (some FieldType.int) := ⟨by decide, rfl, pw6_175, pw6_176, pw1_13, pw6_177⟩
theorem nd_X12_init : pg_nd yX12_init 0 := ⟨by decide +kernel, by decide +kernel, by decide +kernel⟩
theorem vy_X12_init : pg_yI 12 yX12_init cX12_init 1 := ⟨by decide, rfl, rfl, pw6_32, pw1_13, pw6_33⟩
theorem nd_X12_isCopy : pg_nd yX12_isCopy 1 := ⟨by decide +kernel, by decide +kernel, by decide +kernel⟩
theorem sl_X12_isCopy : Cond.selects RX12 yX12_isCopy yX12_isCopy ∈ pg_W := pg_sel (q := (yX12_isCopy, 46)) (List.mem_of_getElem? (i := 55) rfl) rfl
theorem vy_X12_isCopy : pg_yV 12 yX12_isCopy cX12_isCopy 2 (some FieldType.boolean) := ⟨by decide, rfl, pw6_207, sl_X12_isCopy, pw1_13, pw6_208⟩
theorem nd_X12_isDigit : pg_nd yX12_isDigit 1 := ⟨by decide +kernel, by decide +kernel, by decide +kernel⟩
theorem vy_X12_isDigit : pg_yS yX12_isDigit cX12_isDigit 1 (some FieldType.boolean) := ⟨pw7_64, pw1_13, pw7_65⟩
theorem nd_X12_isHand : pg_nd yX12_isHand 1 := ⟨by decide +kernel, by decide +kernel, by decide +kernel⟩
theorem sl_X12_isHand : Cond.selects RX12 yX12_isHand yX12_isHand ∈ pg_W := pg_sel (q := (yX12_isHand, 46)) (List.mem_of_getElem? (i := 57) rfl) rfl
theorem vy_X12_isHand : pg_yV 12 yX12_isHand cX12_isHand 2 (some FieldType.boolean) := ⟨by decide, rfl, pw6_230, sl_X12_isHand, pw1_13, pw6_231⟩
theorem nd_X12_isIn : pg_nd yX12_isIn 2 := ⟨by decide +kernel, by decide +kernel, by decide +kernel⟩
theorem sl_X12_isIn : Cond.selects RX12 yX12_isIn yX12_isIn ∈ pg_W := pg_sel (q := (yX12_isIn, 46)) (List.mem_of_getElem? (i := 113) rfl) rfl
theorem vy_X12_isIn : pg_yV 12 yX12_isIn cX12_isIn 5 (some FieldType.boolean) := ⟨by decide, rfl, pw8_103, sl_X12_isIn, pw1_13, pw8_104⟩
theorem nd_X12_isNoted : pg_nd yX12_isNoted 2 := ⟨by decide +kernel, by decide +kernel, by decide +kernel⟩
theorem sl_X12_isNoted : Cond.selects RX12 yX12_isNoted yX12_isNoted ∈ pg_W := pg_sel (q := (yX12_isNoted, 46)) (List.mem_of_getElem? (i := 116) rfl) rfl
theorem vy_X12_isNoted : pg_yV 12 yX12_isNoted cX12_isNoted 5 (some FieldType.boolean) := ⟨by decide, rfl, pw8_123, sl_X12_isNoted, pw1_13, pw8_124⟩
theorem nd_X12_isOn : pg_nd yX12_isOn 2 := ⟨by decide +kernel, by decide +kernel, by decide +kernel⟩
theorem sl_X12_isOn : Cond.selects RX12 yX12_isOn yX12_isOn ∈ pg_W := pg_sel (q := (yX12_isOn, 46)) (List.mem_of_getElem? (i := 121) rfl) rfl
theorem vy_X12_isOn : pg_yV 12 yX12_isOn cX12_isOn 3 (some FieldType.boolean) := ⟨by decide, rfl, pw8_154, sl_X12_isOn, pw1_13, pw8_155⟩
theorem nd_X12_isSmall : pg_nd yX12_isSmall 1 := ⟨by decide +kernel, by decide +kernel, by decide +kernel⟩
theorem vy_X12_isSmall : pg_yS yX12_isSmall cX12_isSmall 1 (some FieldType.boolean) := ⟨pw7_61, pw1_13, pw7_62⟩
theorem nd_X12_isStruck : pg_nd yX12_isStruck 2 := ⟨by decide +kernel, by decide +kernel, by decide +kernel⟩
theorem sl_X12_isStruck : Cond.selects RX12 yX12_isStruck yX12_isStruck ∈ pg_W := pg_sel (q := (yX12_isStruck, 46)) (List.mem_of_getElem? (i := 122) rfl) rfl
theorem vy_X12_isStruck : pg_yV 12 yX12_isStruck cX12_isStruck 3 (some FieldType.boolean) := ⟨by decide, rfl, pw8_166, sl_X12_isStruck, pw1_13, pw8_167⟩
theorem nd_X12_isText : pg_nd yX12_isText 1 := ⟨by decide +kernel, by decide +kernel, by decide +kernel⟩
theorem sl_X12_isText : Cond.selects RX12 yX12_isText yX12_isText ∈ pg_W := pg_sel (q := (yX12_isText, 46)) (List.mem_of_getElem? (i := 79) rfl) rfl
theorem vy_X12_isText : pg_yV 12 yX12_isText cX12_isText 2 (some FieldType.boolean) := ⟨by decide, rfl, pw7_132, sl_X12_isText, pw1_13, pw7_133⟩
theorem nd_X12_joins : pg_nd yX12_joins 1 := ⟨by decide +kernel, by decide +kernel, by decide +kernel⟩
theorem vy_X12_joins : pg_yV 12 yX12_joins cX12_joins 3 (some FieldType.int) := ⟨by decide, rfl, pw8_60, pw8_61, pw1_13, pw8_62⟩
theorem nd_X12_joinsAll : pg_nd yX12_joinsAll 1 := ⟨by decide +kernel, by decide +kernel, by decide +kernel⟩
theorem sl_X12_joinsAll : Cond.selects RX12 yX12_joinsAll yX12_joinsAll ∈ pg_W := pg_sel (q := (yX12_joinsAll, 46)) (List.mem_of_getElem? (i := 107) rfl) rfl
theorem vy_X12_joinsAll : pg_yV 12 yX12_joinsAll cX12_joinsAll 5 none := ⟨by decide, rfl, pw8_49, sl_X12_joinsAll, pw1_13, pw8_50⟩
theorem nd_X12_late : pg_nd yX12_late 2 := ⟨by decide +kernel, by decide +kernel, by decide +kernel⟩
theorem vy_X12_late : pg_yV 12 yX12_late cX12_late 5 (some FieldType.int) := ⟨by decide, rfl, pw8_169, pw8_170, pw1_13, pw8_171⟩
theorem nd_X12_laysCosts : pg_nd yX12_laysCosts 0 := ⟨by decide +kernel, by decide +kernel, by decide +kernel⟩
theorem sl_X12_laysCosts : Cond.selects RX12 yX12_laysCosts yX12_laysCosts ∈ pg_W := pg_sel (q := (yX12_laysCosts, 46)) (List.mem_of_getElem? (i := 100) rfl) rfl
theorem vy_X12_laysCosts : pg_yV 12 yX12_laysCosts cX12_laysCosts 3 none := ⟨by decide, rfl, pw7_235, sl_X12_laysCosts, pw1_13, pw7_236⟩
theorem nd_X12_leaf : pg_nd yX12_leaf 0 := ⟨by decide +kernel, by decide +kernel, by decide +kernel⟩
theorem sl_X12_leaf : Cond.selects RX12 yX12_leaf yX12_leaf ∈ pg_W := pg_sel (q := (yX12_leaf, 46)) (List.mem_of_getElem? (i := 75) rfl) rfl
theorem vy_X12_leaf : pg_yV 12 yX12_leaf cX12_leaf 1 none := ⟨by decide, rfl, pw7_108, sl_X12_leaf, pw1_13, pw7_109⟩
theorem nd_X12_lies : pg_nd yX12_lies 3 := ⟨by decide +kernel, by decide +kernel, by decide +kernel⟩
theorem vy_X12_lies : pg_yS yX12_lies cX12_lies 3 (some FieldType.boolean) := ⟨pw6_179, pw1_13, pw6_180⟩
theorem nd_X12_likens : pg_nd yX12_likens 3 := ⟨by decide +kernel, by decide +kernel, by decide +kernel⟩
theorem sl_X12_likens : Cond.selects RX12 yX12_likens yX12_likens ∈ pg_W := pg_sel (q := (yX12_likens, 46)) (List.mem_of_getElem? (i := 109) rfl) rfl
theorem vy_X12_likens : pg_yV 12 yX12_likens cX12_likens 6 none := ⟨by decide, rfl, pw8_69, sl_X12_likens, pw1_13, pw8_70⟩
theorem nd_X12_look : pg_nd yX12_look 2 := ⟨by decide +kernel, by decide +kernel, by decide +kernel⟩
theorem vy_X12_look : pg_yV 12 yX12_look cX12_look 3 (some FieldType.int) := ⟨by decide, rfl, pw6_202, pw6_203, pw1_13, pw6_204⟩
theorem nd_X12_makes : pg_nd yX12_makes 3 := ⟨by decide +kernel, by decide +kernel, by decide +kernel⟩
theorem vy_X12_makes : pg_yS yX12_makes cX12_makes 9 none := ⟨pw8_79, pw1_13, pw8_80⟩
theorem nd_X12_many : pg_nd yX12_many 2 := ⟨by decide +kernel, by decide +kernel, by decide +kernel⟩
theorem vy_X12_many : pg_yV 12 yX12_many cX12_many 7 (some FieldType.int) := ⟨by decide, rfl, pw8_149, pw8_150, pw1_13, pw8_151⟩
theorem nd_X12_may : pg_nd yX12_may 2 := ⟨by decide +kernel, by decide +kernel, by decide +kernel⟩
theorem vy_X12_may : pg_yV 12 yX12_may cX12_may 3 (some FieldType.int) := ⟨by decide, rfl, pw7_194, pw7_195, pw1_13, pw7_196⟩
theorem nd_X12_must : pg_nd yX12_must 1 := ⟨by decide +kernel, by decide +kernel, by decide +kernel⟩
theorem sl_X12_must : Cond.selects RX12 yX12_must yX12_must ∈ pg_W := pg_sel (q := (yX12_must, 46)) (List.mem_of_getElem? (i := 74) rfl) rfl
theorem vy_X12_must : pg_yV 12 yX12_must cX12_must 2 none := ⟨by decide, rfl, pw7_104, sl_X12_must, pw1_13, pw7_105⟩
theorem nd_X12_net : pg_nd yX12_net 2 := ⟨by decide +kernel, by decide +kernel, by decide +kernel⟩
theorem vy_X12_net : pg_yV 12 yX12_net cX12_net 9 (some FieldType.int) := ⟨by decide, rfl, pw8_31, pw8_32, pw1_13, pw8_33⟩
theorem nd_X12_next : pg_nd yX12_next 1 := ⟨by decide +kernel, by decide +kernel, by decide +kernel⟩
theorem vy_X12_next : pg_yV 12 yX12_next cX12_next 7 (some FieldType.int) := ⟨by decide, rfl, pw8_173, pw8_174, pw1_13, pw8_175⟩
theorem nd_X12_note : pg_nd yX12_note 5 := ⟨by decide +kernel, by decide +kernel, by decide +kernel⟩
theorem vy_X12_note : pg_yV 12 yX12_note cX12_note 6 (some FieldType.int) := ⟨by decide, rfl, pw6_237, pw6_238, pw1_13, pw6_239⟩
theorem nd_X12_noteOf : pg_nd yX12_noteOf 2 := ⟨by decide +kernel, by decide +kernel, by decide +kernel⟩
theorem sl_X12_noteOf : Cond.selects RX12 yX12_noteOf yX12_noteOf ∈ pg_W := pg_sel (q := (yX12_noteOf, 46)) (List.mem_of_getElem? (i := 60) rfl) rfl
theorem vy_X12_noteOf : pg_yV 12 yX12_noteOf cX12_noteOf 3 (some FieldType.int) := ⟨by decide, rfl, pw7_10, sl_X12_noteOf, pw1_13, pw7_11⟩
theorem nd_X12_notes : pg_nd yX12_notes 5 := ⟨by decide +kernel, by decide +kernel, by decide +kernel⟩
theorem sl_X12_notes : Cond.selects RX12 yX12_notes yX12_notes ∈ pg_W := pg_sel (q := (yX12_notes, 46)) (List.mem_of_getElem? (i := 62) rfl) rfl
theorem vy_X12_notes : pg_yV 12 yX12_notes cX12_notes 7 none := ⟨by decide, rfl, pw7_18, sl_X12_notes, pw1_13, pw7_19⟩
theorem nd_X12_of : pg_nd yX12_of 2 := ⟨by decide +kernel, by decide +kernel, by decide +kernel⟩
theorem vy_X12_of : pg_yV 12 yX12_of cX12_of 3 (some FieldType.int) := ⟨by decide, rfl, pw7_21, pw7_22, pw1_13, pw7_23⟩
theorem nd_X12_order : pg_nd yX12_order 2 := ⟨by decide +kernel, by decide +kernel, by decide +kernel⟩
theorem vy_X12_order : pg_yS yX12_order cX12_order 3 (some FieldType.int) := ⟨pw8_91, pw1_13, pw8_92⟩
theorem nd_X12_partOf : pg_nd yX12_partOf 1 := ⟨by decide +kernel, by decide +kernel, by decide +kernel⟩
theorem sl_X12_partOf : Cond.selects RX12 yX12_partOf yX12_partOf ∈ pg_W := pg_sel (q := (yX12_partOf, 46)) (List.mem_of_getElem? (i := 86) rfl) rfl
theorem vy_X12_partOf : pg_yV 12 yX12_partOf cX12_partOf 4 (some FieldType.long) := ⟨by decide, rfl, pw7_164, sl_X12_partOf, pw1_13, pw7_165⟩
theorem nd_X12_passes : pg_nd yX12_passes 1 := ⟨by decide +kernel, by decide +kernel, by decide +kernel⟩
theorem sl_X12_passes : Cond.selects RX12 yX12_passes yX12_passes ∈ pg_W := pg_sel (q := (yX12_passes, 46)) (List.mem_of_getElem? (i := 87) rfl) rfl
theorem vy_X12_passes : pg_yV 12 yX12_passes cX12_passes 3 (some FieldType.boolean) := ⟨by decide, rfl, pw7_168, sl_X12_passes, pw1_13, pw7_169⟩
theorem nd_X12_plainOf : pg_nd yX12_plainOf 1 := ⟨by decide +kernel, by decide +kernel, by decide +kernel⟩
theorem sl_X12_plainOf : Cond.selects RX12 yX12_plainOf yX12_plainOf ∈ pg_W := pg_sel (q := (yX12_plainOf, 46)) (List.mem_of_getElem? (i := 91) rfl) rfl
theorem vy_X12_plainOf : pg_yV 12 yX12_plainOf cX12_plainOf 3 (some FieldType.boolean) := ⟨by decide, rfl, pw7_186, sl_X12_plainOf, pw1_13, pw7_187⟩
theorem nd_X12_positiveOf : pg_nd yX12_positiveOf 1 := ⟨by decide +kernel, by decide +kernel, by decide +kernel⟩
theorem sl_X12_positiveOf : Cond.selects RX12 yX12_positiveOf yX12_positiveOf ∈ pg_W := pg_sel (q := (yX12_positiveOf, 46)) (List.mem_of_getElem? (i := 92) rfl) rfl
theorem vy_X12_positiveOf : pg_yV 12 yX12_positiveOf cX12_positiveOf 7 (some FieldType.boolean) := ⟨by decide, rfl, pw7_190, sl_X12_positiveOf, pw1_13, pw7_191⟩
theorem nd_X12_quotient : pg_nd yX12_quotient 0 := ⟨by decide +kernel, by decide +kernel, by decide +kernel⟩
theorem sl_X12_quotient : Cond.selects RX12 yX12_quotient yX12_quotient ∈ pg_W := pg_sel (q := (yX12_quotient, 46)) (List.mem_of_getElem? (i := 112) rfl) rfl
theorem vy_X12_quotient : pg_yV 12 yX12_quotient cX12_quotient 5 (some FieldType.int) := ⟨by decide, rfl, pw8_88, sl_X12_quotient, pw1_13, pw8_89⟩
theorem nd_X12_read : pg_nd yX12_read 2 := ⟨by decide +kernel, by decide +kernel, by decide +kernel⟩
theorem vy_X12_read : pg_yV 12 yX12_read cX12_read 4 (some FieldType.int) := ⟨by decide, rfl, pw8_126, pw8_127, pw1_13, pw8_128⟩
theorem nd_X12_readBoth : pg_nd yX12_readBoth 1 := ⟨by decide +kernel, by decide +kernel, by decide +kernel⟩
theorem sl_X12_readBoth : Cond.selects RX12 yX12_readBoth yX12_readBoth ∈ pg_W := pg_sel (q := (yX12_readBoth, 46)) (List.mem_of_getElem? (i := 77) rfl) rfl
theorem vy_X12_readBoth : pg_yV 12 yX12_readBoth cX12_readBoth 2 none := ⟨by decide, rfl, pw7_116, sl_X12_readBoth, pw1_13, pw7_117⟩
theorem nd_X12_readClause : pg_nd yX12_readClause 0 := ⟨by decide +kernel, by decide +kernel, by decide +kernel⟩
theorem sl_X12_readClause : Cond.selects RX12 yX12_readClause yX12_readClause ∈ pg_W := pg_sel (q := (yX12_readClause, 46)) (List.mem_of_getElem? (i := 67) rfl) rfl
theorem vy_X12_readClause : pg_yV 12 yX12_readClause cX12_readClause 1 none := ⟨by decide, rfl, pw7_73, sl_X12_readClause, pw1_13, pw7_74⟩
theorem nd_X12_readPart : pg_nd yX12_readPart 1 := ⟨by decide +kernel, by decide +kernel, by decide +kernel⟩
theorem sl_X12_readPart : Cond.selects RX12 yX12_readPart yX12_readPart ∈ pg_W := pg_sel (q := (yX12_readPart, 46)) (List.mem_of_getElem? (i := 72) rfl) rfl
theorem vy_X12_readPart : pg_yV 12 yX12_readPart cX12_readPart 3 none := ⟨by decide, rfl, pw7_93, sl_X12_readPart, pw1_13, pw7_94⟩
theorem nd_X12_readPlain : pg_nd yX12_readPlain 1 := ⟨by decide +kernel, by decide +kernel, by decide +kernel⟩
theorem sl_X12_readPlain : Cond.selects RX12 yX12_readPlain yX12_readPlain ∈ pg_W := pg_sel (q := (yX12_readPlain, 46)) (List.mem_of_getElem? (i := 78) rfl) rfl
theorem vy_X12_readPlain : pg_yV 12 yX12_readPlain cX12_readPlain 4 none := ⟨by decide, rfl, pw7_120, sl_X12_readPlain, pw1_13, pw7_121⟩
theorem nd_X12_readSum : pg_nd yX12_readSum 1 := ⟨by decide +kernel, by decide +kernel, by decide +kernel⟩
theorem sl_X12_readSum : Cond.selects RX12 yX12_readSum yX12_readSum ∈ pg_W := pg_sel (q := (yX12_readSum, 46)) (List.mem_of_getElem? (i := 70) rfl) rfl
theorem vy_X12_readSum : pg_yV 12 yX12_readSum cX12_readSum 2 none := ⟨by decide, rfl, pw7_85, sl_X12_readSum, pw1_13, pw7_86⟩
theorem nd_X12_readTerm : pg_nd yX12_readTerm 1 := ⟨by decide +kernel, by decide +kernel, by decide +kernel⟩
theorem sl_X12_readTerm : Cond.selects RX12 yX12_readTerm yX12_readTerm ∈ pg_W := pg_sel (q := (yX12_readTerm, 46)) (List.mem_of_getElem? (i := 71) rfl) rfl
theorem vy_X12_readTerm : pg_yV 12 yX12_readTerm cX12_readTerm 2 none := ⟨by decide, rfl, pw7_89, sl_X12_readTerm, pw1_13, pw7_90⟩
theorem nd_X12_readTest : pg_nd yX12_readTest 1 := ⟨by decide +kernel, by decide +kernel, by decide +kernel⟩
theorem sl_X12_readTest : Cond.selects RX12 yX12_readTest yX12_readTest ∈ pg_W := pg_sel (q := (yX12_readTest, 46)) (List.mem_of_getElem? (i := 76) rfl) rfl
theorem vy_X12_readTest : pg_yV 12 yX12_readTest cX12_readTest 2 none := ⟨by decide, rfl, pw7_112, sl_X12_readTest, pw1_13, pw7_113⟩
theorem nd_X12_reads : pg_nd yX12_reads 0 := ⟨by decide +kernel, by decide +kernel, by decide +kernel⟩
theorem sl_X12_reads : Cond.selects RX12 yX12_reads yX12_reads ∈ pg_W := pg_sel (q := (yX12_reads, 46)) (List.mem_of_getElem? (i := 64) rfl) rfl
theorem vy_X12_reads : pg_yV 12 yX12_reads cX12_reads 2 (some FieldType.boolean) := ⟨by decide, rfl, pw7_54, sl_X12_reads, pw1_13, pw7_55⟩
theorem nd_X12_refuses : pg_nd yX12_refuses 1 := ⟨by decide +kernel, by decide +kernel, by decide +kernel⟩
theorem sl_X12_refuses : Cond.selects RX12 yX12_refuses yX12_refuses ∈ pg_W := pg_sel (q := (yX12_refuses, 46)) (List.mem_of_getElem? (i := 52) rfl) rfl
theorem vy_X12_refuses : pg_yV 12 yX12_refuses cX12_refuses 2 (some FieldType.int) := ⟨by decide, rfl, pw6_183, sl_X12_refuses, pw1_13, pw6_184⟩
theorem nd_X12_replaces : pg_nd yX12_replaces 2 := ⟨by decide +kernel, by decide +kernel, by decide +kernel⟩
theorem sl_X12_replaces : Cond.selects RX12 yX12_replaces yX12_replaces ∈ pg_W := pg_sel (q := (yX12_replaces, 46)) (List.mem_of_getElem? (i := 56) rfl) rfl
theorem vy_X12_replaces : pg_yV 12 yX12_replaces cX12_replaces 4 (some FieldType.int) := ⟨by decide, rfl, pw6_211, sl_X12_replaces, pw1_13, pw6_212⟩
theorem nd_X12_row : pg_nd yX12_row 1 := ⟨by decide +kernel, by decide +kernel, by decide +kernel⟩
theorem vy_X12_row : pg_yV 12 yX12_row cX12_row 7 (some FieldType.int) := ⟨by decide, rfl, pw7_33, pw7_34, pw1_13, pw7_35⟩
theorem nd_X12_run : pg_nd yX12_run 1 := ⟨by decide +kernel, by decide +kernel, by decide +kernel⟩
theorem vy_X12_run : pg_yV 12 yX12_run cX12_run 6 (some FieldType.int) := ⟨by decide, rfl, pw8_177, pw8_178, pw1_13, pw8_179⟩
theorem nd_X12_sample : pg_nd yX12_sample 3 := ⟨by decide +kernel, by decide +kernel, by decide +kernel⟩
theorem vy_X12_sample : pg_yV 12 yX12_sample cX12_sample 4 (some FieldType.int) := ⟨by decide, rfl, pw6_233, pw6_234, pw1_13, pw6_235⟩
theorem nd_X12_sharedBy : pg_nd yX12_sharedBy 2 := ⟨by decide +kernel, by decide +kernel, by decide +kernel⟩
theorem sl_X12_sharedBy : Cond.selects RX12 yX12_sharedBy yX12_sharedBy ∈ pg_W := pg_sel (q := (yX12_sharedBy, 46)) (List.mem_of_getElem? (i := 63) rfl) rfl
theorem vy_X12_sharedBy : pg_yV 12 yX12_sharedBy cX12_sharedBy 5 (some FieldType.int) := ⟨by decide, rfl, pw7_26, sl_X12_sharedBy, pw1_13, pw7_27⟩
theorem nd_X12_sign : pg_nd yX12_sign 1 := ⟨by decide +kernel, by decide +kernel, by decide +kernel⟩
theorem vy_X12_sign : pg_yS yX12_sign cX12_sign 1 (some FieldType.int) := ⟨pw7_96, pw1_13, pw7_97⟩
theorem nd_X12_splits : pg_nd yX12_splits 1 := ⟨by decide +kernel, by decide +kernel, by decide +kernel⟩
theorem sl_X12_splits : Cond.selects RX12 yX12_splits yX12_splits ∈ pg_W := pg_sel (q := (yX12_splits, 46)) (List.mem_of_getElem? (i := 65) rfl) rfl
theorem vy_X12_splits : pg_yV 12 yX12_splits cX12_splits 6 none := ⟨by decide, rfl, pw7_58, sl_X12_splits, pw1_13, pw7_59⟩
theorem nd_X12_status : pg_nd yX12_status 0 := ⟨by decide +kernel, by decide +kernel, by decide +kernel⟩
theorem vy_X12_status : pg_yV 12 yX12_status cX12_status 1 (some FieldType.int) := ⟨by decide, rfl, pw8_204, pw8_205, pw1_13, pw8_206⟩
theorem nd_X12_stay : pg_nd yX12_stay 4 := ⟨by decide +kernel, by decide +kernel, by decide +kernel⟩
theorem vy_X12_stay : pg_yV 12 yX12_stay cX12_stay 6 (some FieldType.int) := ⟨by decide, rfl, pw6_214, pw6_215, pw1_13, pw6_216⟩
theorem nd_X12_stayOf : pg_nd yX12_stayOf 2 := ⟨by decide +kernel, by decide +kernel, by decide +kernel⟩
theorem sl_X12_stayOf : Cond.selects RX12 yX12_stayOf yX12_stayOf ∈ pg_W := pg_sel (q := (yX12_stayOf, 46)) (List.mem_of_getElem? (i := 95) rfl) rfl
theorem vy_X12_stayOf : pg_yV 12 yX12_stayOf cX12_stayOf 3 (some FieldType.int) := ⟨by decide, rfl, pw7_207, sl_X12_stayOf, pw1_13, pw7_208⟩
theorem nd_X12_stepsOf : pg_nd yX12_stepsOf 1 := ⟨by decide +kernel, by decide +kernel, by decide +kernel⟩
theorem sl_X12_stepsOf : Cond.selects RX12 yX12_stepsOf yX12_stepsOf ∈ pg_W := pg_sel (q := (yX12_stepsOf, 46)) (List.mem_of_getElem? (i := 104) rfl) rfl
theorem vy_X12_stepsOf : pg_yV 12 yX12_stepsOf cX12_stepsOf 4 (some FieldType.int) := ⟨by decide, rfl, pw8_24, sl_X12_stepsOf, pw1_13, pw8_25⟩
theorem nd_X12_stops : pg_nd yX12_stops 2 := ⟨by decide +kernel, by decide +kernel, by decide +kernel⟩
theorem vy_X12_stops : pg_yV 12 yX12_stops cX12_stops 6 (some FieldType.int) := ⟨by decide, rfl, pw8_118, pw8_119, pw1_13, pw8_120⟩
theorem nd_X12_sumOf : pg_nd yX12_sumOf 1 := ⟨by decide +kernel, by decide +kernel, by decide +kernel⟩
theorem sl_X12_sumOf : Cond.selects RX12 yX12_sumOf yX12_sumOf ∈ pg_W := pg_sel (q := (yX12_sumOf, 46)) (List.mem_of_getElem? (i := 84) rfl) rfl
theorem vy_X12_sumOf : pg_yV 12 yX12_sumOf cX12_sumOf 7 (some FieldType.long) := ⟨by decide, rfl, pw7_156, sl_X12_sumOf, pw1_13, pw7_157⟩
theorem nd_X12_sure : pg_nd yX12_sure 1 := ⟨by decide +kernel, by decide +kernel, by decide +kernel⟩
theorem vy_X12_sure : pg_yV 12 yX12_sure cX12_sure 2 (some FieldType.int) := ⟨by decide, rfl, pw8_15, pw8_16, pw1_13, pw8_17⟩
theorem nd_X12_takes : pg_nd yX12_takes 1 := ⟨by decide +kernel, by decide +kernel, by decide +kernel⟩
theorem sl_X12_takes : Cond.selects RX12 yX12_takes yX12_takes ∈ pg_W := pg_sel (q := (yX12_takes, 46)) (List.mem_of_getElem? (i := 68) rfl) rfl
theorem vy_X12_takes : pg_yV 12 yX12_takes cX12_takes 3 (some FieldType.boolean) := ⟨by decide, rfl, pw7_77, sl_X12_takes, pw1_13, pw7_78⟩
theorem nd_X12_term : pg_nd yX12_term 1 := ⟨by decide +kernel, by decide +kernel, by decide +kernel⟩
theorem sl_X12_term : Cond.selects RX12 yX12_term yX12_term ∈ pg_W := pg_sel (q := (yX12_term, 46)) (List.mem_of_getElem? (i := 98) rfl) rfl
theorem vy_X12_term : pg_yV 12 yX12_term cX12_term 2 (some FieldType.int) := ⟨by decide, rfl, pw7_223, sl_X12_term, pw1_13, pw7_224⟩
theorem nd_X12_termOf : pg_nd yX12_termOf 1 := ⟨by decide +kernel, by decide +kernel, by decide +kernel⟩
theorem sl_X12_termOf : Cond.selects RX12 yX12_termOf yX12_termOf ∈ pg_W := pg_sel (q := (yX12_termOf, 46)) (List.mem_of_getElem? (i := 85) rfl) rfl
theorem vy_X12_termOf : pg_yV 12 yX12_termOf cX12_termOf 7 (some FieldType.long) := ⟨by decide, rfl, pw7_160, sl_X12_termOf, pw1_13, pw7_161⟩
theorem nd_X12_terms : pg_nd yX12_terms 2 := ⟨by decide +kernel, by decide +kernel, by decide +kernel⟩
theorem vy_X12_terms : pg_yV 12 yX12_terms cX12_terms 3 (some FieldType.int) := ⟨by decide, rfl, pw7_29, pw7_30, pw1_13, pw7_31⟩
theorem nd_X12_testOf : pg_nd yX12_testOf 1 := ⟨by decide +kernel, by decide +kernel, by decide +kernel⟩
theorem sl_X12_testOf : Cond.selects RX12 yX12_testOf yX12_testOf ∈ pg_W := pg_sel (q := (yX12_testOf, 46)) (List.mem_of_getElem? (i := 89) rfl) rfl
theorem vy_X12_testOf : pg_yV 12 yX12_testOf cX12_testOf 4 (some FieldType.boolean) := ⟨by decide, rfl, pw7_178, sl_X12_testOf, pw1_13, pw7_179⟩
theorem nd_X12_text : pg_nd yX12_text 0 := ⟨by decide +kernel, by decide +kernel, by decide +kernel⟩
theorem vy_X12_text : pg_yV 12 yX12_text cX12_text 3 (some FieldType.int) := ⟨by decide, rfl, pw7_49, pw7_50, pw1_13, pw7_51⟩
theorem nd_X12_times : pg_nd yX12_times 3 := ⟨by decide +kernel, by decide +kernel, by decide +kernel⟩
theorem vy_X12_times : pg_yV 12 yX12_times cX12_times 4 (some FieldType.int) := ⟨by decide, rfl, pw8_64, pw8_65, pw1_13, pw8_66⟩
theorem nd_X12_toOf : pg_nd yX12_toOf 1 := ⟨by decide +kernel, by decide +kernel, by decide +kernel⟩
theorem sl_X12_toOf : Cond.selects RX12 yX12_toOf yX12_toOf ∈ pg_W := pg_sel (q := (yX12_toOf, 46)) (List.mem_of_getElem? (i := 115) rfl) rfl
theorem vy_X12_toOf : pg_yV 12 yX12_toOf cX12_toOf 5 (some FieldType.int) := ⟨by decide, rfl, pw8_115, sl_X12_toOf, pw1_13, pw8_116⟩
theorem nd_X12_towns : pg_nd yX12_towns 1 := ⟨by decide +kernel, by decide +kernel, by decide +kernel⟩
theorem vy_X12_towns : pg_yV 12 yX12_towns cX12_towns 6 (some FieldType.int) := ⟨by decide, rfl, pw8_98, pw8_99, pw1_13, pw8_100⟩
theorem nd_X12_tree : pg_nd yX12_tree 0 := ⟨by decide +kernel, by decide +kernel, by decide +kernel⟩
theorem vy_X12_tree : pg_yV 12 yX12_tree cX12_tree 1 (some FieldType.int) := ⟨by decide, rfl, pw7_230, pw7_231, pw1_13, pw7_232⟩
theorem nd_X12_trimmed : pg_nd yX12_trimmed 0 := ⟨by decide +kernel, by decide +kernel, by decide +kernel⟩
theorem vy_X12_trimmed : pg_yV 12 yX12_trimmed cX12_trimmed 1 (some FieldType.int) := ⟨by decide, rfl, pw7_37, pw7_38, pw1_13, pw7_39⟩
theorem nd_X12_use : pg_nd yX12_use 1 := ⟨by decide +kernel, by decide +kernel, by decide +kernel⟩
theorem vy_X12_use : pg_yV 12 yX12_use cX12_use 2 (some FieldType.int) := ⟨by decide, rfl, pw7_127, pw7_128, pw1_13, pw7_129⟩
theorem nd_X12_weighs : pg_nd yX12_weighs 0 := ⟨by decide +kernel, by decide +kernel, by decide +kernel⟩
theorem sl_X12_weighs : Cond.selects RX12 yX12_weighs yX12_weighs ∈ pg_W := pg_sel (q := (yX12_weighs, 46)) (List.mem_of_getElem? (i := 96) rfl) rfl
theorem vy_X12_weighs : pg_yV 12 yX12_weighs cX12_weighs 2 none := ⟨by decide, rfl, pw7_215, sl_X12_weighs, pw1_13, pw7_216⟩
theorem nd_X12_weight : pg_nd yX12_weight 2 := ⟨by decide +kernel, by decide +kernel, by decide +kernel⟩
theorem vy_X12_weight : pg_yV 12 yX12_weight cX12_weight 3 (some FieldType.int) := ⟨by decide, rfl, pw7_135, pw7_136, pw1_13, pw7_137⟩
theorem nd_X12_weightOf : pg_nd yX12_weightOf 2 := ⟨by decide +kernel, by decide +kernel, by decide +kernel⟩
theorem sl_X12_weightOf : Cond.selects RX12 yX12_weightOf yX12_weightOf ∈ pg_W := pg_sel (q := (yX12_weightOf, 46)) (List.mem_of_getElem? (i := 80) rfl) rfl
theorem vy_X12_weightOf : pg_yV 12 yX12_weightOf cX12_weightOf 3 (some FieldType.int) := ⟨by decide, rfl, pw7_140, sl_X12_weightOf, pw1_13, pw7_141⟩
theorem nd_X12_whose : pg_nd yX12_whose 1 := ⟨by decide +kernel, by decide +kernel, by decide +kernel⟩
theorem vy_X12_whose : pg_yV 12 yX12_whose cX12_whose 2 (some FieldType.int) := ⟨by decide, rfl, pw8_7, pw8_8, pw1_13, pw8_9⟩
theorem nd_X12_wordOf : pg_nd yX12_wordOf 2 := ⟨by decide +kernel, by decide +kernel, by decide +kernel⟩
theorem sl_X12_wordOf : Cond.selects RX12 yX12_wordOf yX12_wordOf ∈ pg_W := pg_sel (q := (yX12_wordOf, 46)) (List.mem_of_getElem? (i := 66) rfl) rfl
theorem vy_X12_wordOf : pg_yV 12 yX12_wordOf cX12_wordOf 8 (some FieldType.int) := ⟨by decide, rfl, pw7_68, sl_X12_wordOf, pw1_13, pw7_69⟩
theorem nd_X12_world : pg_nd yX12_world 2 := ⟨by decide +kernel, by decide +kernel, by decide +kernel⟩
theorem vy_X12_world : pg_yV 12 yX12_world cX12_world 5 (some FieldType.int) := ⟨by decide, rfl, pw8_192, pw8_193, pw1_13, pw8_194⟩
theorem nd_X12_written : pg_nd yX12_written 1 := ⟨by decide +kernel, by decide +kernel, by decide +kernel⟩
theorem vy_X12_written : pg_yV 12 yX12_written cX12_written 4 (some FieldType.int) := ⟨by decide, rfl, pw8_94, pw8_95, pw1_13, pw8_96⟩
theorem nd_X1_add : pg_nd yX1_add 1 := ⟨by decide +kernel, by decide +kernel, by decide +kernel⟩
theorem vy_X1_add : pg_yV 1 yX1_add cX1_add 8 none := ⟨by decide, rfl, pw5_110, pw5_111, pw1_11, pw5_112⟩
theorem nd_X1_become : pg_nd yX1_become 1 := ⟨by decide +kernel, by decide +kernel, by decide +kernel⟩
theorem vy_X1_become : pg_yV 1 yX1_become cX1_become 2 none := ⟨by decide, rfl, pw4_231, pw4_232, pw1_11, pw4_233⟩
theorem nd_X1_init : pg_nd yX1_init 0 := ⟨by decide +kernel, by decide +kernel, by decide +kernel⟩
theorem vy_X1_init : pg_yI 1 yX1_init cX1_init 1 := ⟨by decide, rfl, rfl, pw2_23, pw1_11, pw2_24⟩
theorem nd_X1_isMoreThan : pg_nd yX1_isMoreThan 1 := ⟨by decide +kernel, by decide +kernel, by decide +kernel⟩
theorem vy_X1_isMoreThan : pg_yV 1 yX1_isMoreThan cX1_isMoreThan 3 (some FieldType.boolean) := ⟨by decide, rfl, pw5_25, pw5_26, pw1_11, pw5_27⟩
theorem nd_X1_isZero : pg_nd yX1_isZero 0 := ⟨by decide +kernel, by decide +kernel, by decide +kernel⟩
theorem vy_X1_isZero : pg_yV 1 yX1_isZero cX1_isZero 1 (some FieldType.boolean) := ⟨by decide, rfl, pw5_115, pw5_116, pw1_11, pw5_117⟩
theorem nd_X1_multiply : pg_nd yX1_multiply 1 := ⟨by decide +kernel, by decide +kernel, by decide +kernel⟩
theorem vy_X1_multiply : pg_yV 1 yX1_multiply cX1_multiply 8 none := ⟨by decide, rfl, pw5_9, pw5_10, pw1_11, pw5_11⟩
theorem nd_X1_multiplyOften : pg_nd yX1_multiplyOften 2 := ⟨by decide +kernel, by decide +kernel, by decide +kernel⟩
theorem vy_X1_multiplyOften : pg_yV 1 yX1_multiplyOften cX1_multiplyOften 6 none := ⟨by decide, rfl, pw5_4, pw5_5, pw1_11, pw5_6⟩
theorem nd_X1_takeFrom : pg_nd yX1_takeFrom 1 := ⟨by decide +kernel, by decide +kernel, by decide +kernel⟩
theorem vy_X1_takeFrom : pg_yV 1 yX1_takeFrom cX1_takeFrom 2 none := ⟨by decide, rfl, pw5_18, pw5_19, pw1_11, pw5_20⟩
theorem nd_X2_chanceRead : pg_nd yX2_chanceRead 4 := ⟨by decide +kernel, by decide +kernel, by decide +kernel⟩
theorem vy_X2_chanceRead : pg_yV 2 yX2_chanceRead cX2_chanceRead 7 (some FieldType.int) := ⟨by decide, rfl, pw5_78, pw5_79, pw1_10, pw5_80⟩
theorem nd_X2_commonFactor : pg_nd yX2_commonFactor 2 := ⟨by decide +kernel, by decide +kernel, by decide +kernel⟩
theorem vy_X2_commonFactor : pg_yS yX2_commonFactor cX2_commonFactor 6 (some FieldType.int) := ⟨pw5_1, pw1_10, pw5_2⟩
theorem nd_X2_init : pg_nd yX2_init 0 := ⟨by decide +kernel, by decide +kernel, by decide +kernel⟩
theorem vy_X2_init : pg_yI 2 yX2_init cX2_init 1 := ⟨by decide, rfl, rfl, pw2_17, pw1_10, pw2_18⟩
theorem nd_X2_likeliestHand : pg_nd yX2_likeliestHand 2 := ⟨by decide +kernel, by decide +kernel, by decide +kernel⟩
theorem vy_X2_likeliestHand : pg_yV 2 yX2_likeliestHand cX2_likeliestHand 5 (some FieldType.int) := ⟨by decide, rfl, pw5_33, pw5_34, pw1_10, pw5_35⟩
theorem nd_X2_timesAsLikely : pg_nd yX2_timesAsLikely 4 := ⟨by decide +kernel, by decide +kernel, by decide +kernel⟩
theorem vy_X2_timesAsLikely : pg_yV 2 yX2_timesAsLikely cX2_timesAsLikely 5 (some FieldType.int) := ⟨by decide, rfl, pw4_223, pw4_224, pw1_10, pw4_225⟩
theorem nd_X2_topThroughBottom : pg_nd yX2_topThroughBottom 0 := ⟨by decide +kernel, by decide +kernel, by decide +kernel⟩
theorem sl_X2_topThroughBottom : Cond.selects RX2 yX2_topThroughBottom yX2_topThroughBottom ∈ pg_W := pg_sel (q := (yX2_topThroughBottom, 5)) (List.mem_of_getElem? (i := 38) rfl) rfl
theorem vy_X2_topThroughBottom : pg_yV 2 yX2_topThroughBottom cX2_topThroughBottom 5 (some FieldType.int) := ⟨by decide, rfl, pw5_14, sl_X2_topThroughBottom, pw1_10, pw5_15⟩
theorem nd_X2_weigh : pg_nd yX2_weigh 4 := ⟨by decide +kernel, by decide +kernel, by decide +kernel⟩
theorem sl_X2_weigh : Cond.selects RX2 yX2_weigh yX2_weigh ∈ pg_W := pg_sel (q := (yX2_weigh, 5)) (List.mem_of_getElem? (i := 36) rfl) rfl
theorem vy_X2_weigh : pg_yV 2 yX2_weigh cX2_weigh 12 none := ⟨by decide, rfl, pw4_228, sl_X2_weigh, pw1_10, pw4_229⟩
theorem nd_X2_weighFactor : pg_nd yX2_weighFactor 3 := ⟨by decide +kernel, by decide +kernel, by decide +kernel⟩
theorem sl_X2_weighFactor : Cond.selects RX2 yX2_weighFactor yX2_weighFactor ∈ pg_W := pg_sel (q := (yX2_weighFactor, 5)) (List.mem_of_getElem? (i := 37) rfl) rfl
theorem vy_X2_weighFactor : pg_yV 2 yX2_weighFactor cX2_weighFactor 5 none := ⟨by decide, rfl, pw4_238, sl_X2_weighFactor, pw1_10, pw4_239⟩
theorem nd_X2_weighRead : pg_nd yX2_weighRead 2 := ⟨by decide +kernel, by decide +kernel, by decide +kernel⟩
theorem sl_X2_weighRead : Cond.selects RX2 yX2_weighRead yX2_weighRead ∈ pg_W := pg_sel (q := (yX2_weighRead, 5)) (List.mem_of_getElem? (i := 43) rfl) rfl
theorem vy_X2_weighRead : pg_yV 2 yX2_weighRead cX2_weighRead 7 none := ⟨by decide, rfl, pw5_106, sl_X2_weighRead, pw1_10, pw5_107⟩
theorem nd_X3_advance : pg_nd yX3_advance 0 := ⟨by decide +kernel, by decide +kernel, by decide +kernel⟩
theorem sl_X3_advance : Cond.selects RX3 yX3_advance yX3_advance ∈ pg_W := pg_sel (q := (yX3_advance, 9)) (List.mem_of_getElem? (i := 11) rfl) rfl
theorem vy_X3_advance : pg_yV 3 yX3_advance cX3_advance 3 none := ⟨by decide, rfl, pw3_115, sl_X3_advance, pw1_6, pw3_116⟩
theorem nd_X3_compile : pg_nd yX3_compile 0 := ⟨by decide +kernel, by decide +kernel, by decide +kernel⟩
theorem vy_X3_compile : pg_yV 3 yX3_compile cX3_compile 2 (some (FieldType.object "SkyMargins$Text")) := ⟨by decide, rfl, pw3_110, pw3_111, pw1_6, pw3_112⟩
theorem nd_X3_emit : pg_nd yX3_emit 1 := ⟨by decide +kernel, by decide +kernel, by decide +kernel⟩
theorem sl_X3_emit : Cond.selects RX3 yX3_emit yX3_emit ∈ pg_W := pg_sel (q := (yX3_emit, 9)) (List.mem_of_getElem? (i := 15) rfl) rfl
theorem vy_X3_emit : pg_yV 3 yX3_emit cX3_emit 2 none := ⟨by decide, rfl, pw3_189, sl_X3_emit, pw1_6, pw3_190⟩
theorem nd_X3_emitJump : pg_nd yX3_emitJump 1 := ⟨by decide +kernel, by decide +kernel, by decide +kernel⟩
theorem sl_X3_emitJump : Cond.selects RX3 yX3_emitJump yX3_emitJump ∈ pg_W := pg_sel (q := (yX3_emitJump, 9)) (List.mem_of_getElem? (i := 25) rfl) rfl
theorem vy_X3_emitJump : pg_yV 3 yX3_emitJump cX3_emitJump 2 (some FieldType.int) := ⟨by decide, rfl, pw3_229, sl_X3_emitJump, pw1_6, pw3_230⟩
theorem nd_X3_fail : pg_nd yX3_fail 0 := ⟨by decide +kernel, by decide +kernel, by decide +kernel⟩
theorem sl_X3_fail : Cond.selects RX3 yX3_fail yX3_fail ∈ pg_W := pg_sel (q := (yX3_fail, 9)) (List.mem_of_getElem? (i := 13) rfl) rfl
theorem vy_X3_fail : pg_yV 3 yX3_fail cX3_fail 1 (some FieldType.boolean) := ⟨by decide, rfl, pw3_181, sl_X3_fail, pw1_6, pw3_182⟩
theorem nd_X3_faultPlace : pg_nd yX3_faultPlace 0 := ⟨by decide +kernel, by decide +kernel, by decide +kernel⟩
theorem vy_X3_faultPlace : pg_yV 3 yX3_faultPlace cX3_faultPlace 1 (some FieldType.int) := ⟨by decide, rfl, pw4_19, pw4_20, pw1_6, pw4_21⟩
theorem nd_X3_init : pg_nd yX3_init 1 := ⟨by decide +kernel, by decide +kernel, by decide +kernel⟩
theorem vy_X3_init : pg_yI 3 yX3_init cX3_init 2 := ⟨by decide, rfl, rfl, pw1_138, pw1_6, pw1_139⟩
theorem nd_X3_isDigit : pg_nd yX3_isDigit 1 := ⟨by decide +kernel, by decide +kernel, by decide +kernel⟩
theorem vy_X3_isDigit : pg_yS yX3_isDigit cX3_isDigit 1 (some FieldType.boolean) := ⟨pw3_176, pw1_6, pw3_177⟩
theorem nd_X3_isLetter : pg_nd yX3_isLetter 1 := ⟨by decide +kernel, by decide +kernel, by decide +kernel⟩
theorem vy_X3_isLetter : pg_yS yX3_isLetter cX3_isLetter 1 (some FieldType.boolean) := ⟨pw3_120, pw1_6, pw3_121⟩
theorem nd_X3_openBracket : pg_nd yX3_openBracket 1 := ⟨by decide +kernel, by decide +kernel, by decide +kernel⟩
theorem sl_X3_openBracket : Cond.selects RX3 yX3_openBracket yX3_openBracket ∈ pg_W := pg_sel (q := (yX3_openBracket, 9)) (List.mem_of_getElem? (i := 19) rfl) rfl
theorem vy_X3_openBracket : pg_yV 3 yX3_openBracket cX3_openBracket 2 (some FieldType.boolean) := ⟨by decide, rfl, pw3_205, sl_X3_openBracket, pw1_6, pw3_206⟩
theorem nd_X3_patch : pg_nd yX3_patch 1 := ⟨by decide +kernel, by decide +kernel, by decide +kernel⟩
theorem sl_X3_patch : Cond.selects RX3 yX3_patch yX3_patch ∈ pg_W := pg_sel (q := (yX3_patch, 9)) (List.mem_of_getElem? (i := 21) rfl) rfl
theorem vy_X3_patch : pg_yV 3 yX3_patch cX3_patch 2 none := ⟨by decide, rfl, pw3_213, sl_X3_patch, pw1_6, pw3_214⟩
theorem nd_X3_readBoth : pg_nd yX3_readBoth 1 := ⟨by decide +kernel, by decide +kernel, by decide +kernel⟩
theorem sl_X3_readBoth : Cond.selects RX3 yX3_readBoth yX3_readBoth ∈ pg_W := pg_sel (q := (yX3_readBoth, 9)) (List.mem_of_getElem? (i := 23) rfl) rfl
theorem vy_X3_readBoth : pg_yV 3 yX3_readBoth cX3_readBoth 4 (some FieldType.boolean) := ⟨by decide, rfl, pw3_221, sl_X3_readBoth, pw1_6, pw3_222⟩
theorem nd_X3_readClause : pg_nd yX3_readClause 0 := ⟨by decide +kernel, by decide +kernel, by decide +kernel⟩
theorem sl_X3_readClause : Cond.selects RX3 yX3_readClause yX3_readClause ∈ pg_W := pg_sel (q := (yX3_readClause, 9)) (List.mem_of_getElem? (i := 14) rfl) rfl
theorem vy_X3_readClause : pg_yV 3 yX3_readClause cX3_readClause 3 (some FieldType.boolean) := ⟨by decide, rfl, pw3_185, sl_X3_readClause, pw1_6, pw3_186⟩
theorem nd_X3_readPart : pg_nd yX3_readPart 1 := ⟨by decide +kernel, by decide +kernel, by decide +kernel⟩
theorem sl_X3_readPart : Cond.selects RX3 yX3_readPart yX3_readPart ∈ pg_W := pg_sel (q := (yX3_readPart, 9)) (List.mem_of_getElem? (i := 18) rfl) rfl
theorem vy_X3_readPart : pg_yV 3 yX3_readPart cX3_readPart 4 (some FieldType.boolean) := ⟨by decide, rfl, pw3_201, sl_X3_readPart, pw1_6, pw3_202⟩
theorem nd_X3_readPlain : pg_nd yX3_readPlain 1 := ⟨by decide +kernel, by decide +kernel, by decide +kernel⟩
theorem sl_X3_readPlain : Cond.selects RX3 yX3_readPlain yX3_readPlain ∈ pg_W := pg_sel (q := (yX3_readPlain, 9)) (List.mem_of_getElem? (i := 24) rfl) rfl
theorem vy_X3_readPlain : pg_yV 3 yX3_readPlain cX3_readPlain 4 (some FieldType.boolean) := ⟨by decide, rfl, pw3_225, sl_X3_readPlain, pw1_6, pw3_226⟩
theorem nd_X3_readSum : pg_nd yX3_readSum 1 := ⟨by decide +kernel, by decide +kernel, by decide +kernel⟩
theorem sl_X3_readSum : Cond.selects RX3 yX3_readSum yX3_readSum ∈ pg_W := pg_sel (q := (yX3_readSum, 9)) (List.mem_of_getElem? (i := 16) rfl) rfl
theorem vy_X3_readSum : pg_yV 3 yX3_readSum cX3_readSum 4 (some FieldType.boolean) := ⟨by decide, rfl, pw3_193, sl_X3_readSum, pw1_6, pw3_194⟩
theorem nd_X3_readTerm : pg_nd yX3_readTerm 1 := ⟨by decide +kernel, by decide +kernel, by decide +kernel⟩
theorem sl_X3_readTerm : Cond.selects RX3 yX3_readTerm yX3_readTerm ∈ pg_W := pg_sel (q := (yX3_readTerm, 9)) (List.mem_of_getElem? (i := 17) rfl) rfl
theorem vy_X3_readTerm : pg_yV 3 yX3_readTerm cX3_readTerm 4 (some FieldType.boolean) := ⟨by decide, rfl, pw3_197, sl_X3_readTerm, pw1_6, pw3_198⟩
theorem nd_X3_readTest : pg_nd yX3_readTest 1 := ⟨by decide +kernel, by decide +kernel, by decide +kernel⟩
theorem sl_X3_readTest : Cond.selects RX3 yX3_readTest yX3_readTest ∈ pg_W := pg_sel (q := (yX3_readTest, 9)) (List.mem_of_getElem? (i := 22) rfl) rfl
theorem vy_X3_readTest : pg_yV 3 yX3_readTest cX3_readTest 4 (some FieldType.boolean) := ⟨by decide, rfl, pw3_217, sl_X3_readTest, pw1_6, pw3_218⟩
theorem nd_X3_takeSign : pg_nd yX3_takeSign 1 := ⟨by decide +kernel, by decide +kernel, by decide +kernel⟩
theorem sl_X3_takeSign : Cond.selects RX3 yX3_takeSign yX3_takeSign ∈ pg_W := pg_sel (q := (yX3_takeSign, 9)) (List.mem_of_getElem? (i := 20) rfl) rfl
theorem vy_X3_takeSign : pg_yV 3 yX3_takeSign cX3_takeSign 2 (some FieldType.boolean) := ⟨by decide, rfl, pw3_209, sl_X3_takeSign, pw1_6, pw3_210⟩
theorem nd_X3_wordNumber : pg_nd yX3_wordNumber 0 := ⟨by decide +kernel, by decide +kernel, by decide +kernel⟩
theorem sl_X3_wordNumber : Cond.selects RX3 yX3_wordNumber yX3_wordNumber ∈ pg_W := pg_sel (q := (yX3_wordNumber, 9)) (List.mem_of_getElem? (i := 12) rfl) rfl
theorem vy_X3_wordNumber : pg_yV 3 yX3_wordNumber cX3_wordNumber 7 (some FieldType.int) := ⟨by decide, rfl, pw3_124, sl_X3_wordNumber, pw1_6, pw3_125⟩
theorem nd_X4_addHolder : pg_nd yX4_addHolder 3 := ⟨by decide +kernel, by decide +kernel, by decide +kernel⟩
theorem sl_X4_addHolder : Cond.selects RX4 yX4_addHolder yX4_addHolder ∈ pg_W := pg_sel (q := (yX4_addHolder, 9)) (List.mem_of_getElem? (i := 4) rfl) rfl
theorem vy_X4_addHolder : pg_yV 4 yX4_addHolder cX4_addHolder 5 none := ⟨by decide, rfl, pw2_217, sl_X4_addHolder, pw1_8, pw2_218⟩
theorem nd_X4_agreement : pg_nd yX4_agreement 2 := ⟨by decide +kernel, by decide +kernel, by decide +kernel⟩
theorem vy_X4_agreement : pg_yV 4 yX4_agreement cX4_agreement 6 (some FieldType.int) := ⟨by decide, rfl, pw4_185, pw4_186, pw1_8, pw4_187⟩
theorem nd_X4_bestPair : pg_nd yX4_bestPair 2 := ⟨by decide +kernel, by decide +kernel, by decide +kernel⟩
theorem vy_X4_bestPair : pg_yV 4 yX4_bestPair cX4_bestPair 10 (some FieldType.int) := ⟨by decide, rfl, pw4_162, pw4_163, pw1_8, pw4_164⟩
theorem nd_X4_bestSingleCost : pg_nd yX4_bestSingleCost 2 := ⟨by decide +kernel, by decide +kernel, by decide +kernel⟩
theorem vy_X4_bestSingleCost : pg_yV 4 yX4_bestSingleCost cX4_bestSingleCost 6 (some FieldType.int) := ⟨by decide, rfl, pw4_175, pw4_176, pw1_8, pw4_177⟩
theorem nd_X4_costFrom : pg_nd yX4_costFrom 3 := ⟨by decide +kernel, by decide +kernel, by decide +kernel⟩
theorem vy_X4_costFrom : pg_yV 4 yX4_costFrom cX4_costFrom 10 (some FieldType.int) := ⟨by decide, rfl, pw4_73, pw4_74, pw1_8, pw4_75⟩
theorem nd_X4_familiesOf : pg_nd yX4_familiesOf 3 := ⟨by decide +kernel, by decide +kernel, by decide +kernel⟩
theorem vy_X4_familiesOf : pg_yV 4 yX4_familiesOf cX4_familiesOf 8 (some FieldType.int) := ⟨by decide, rfl, pw4_194, pw4_195, pw1_8, pw4_196⟩
theorem nd_X4_familyOf : pg_nd yX4_familyOf 3 := ⟨by decide +kernel, by decide +kernel, by decide +kernel⟩
theorem vy_X4_familyOf : pg_yV 4 yX4_familyOf cX4_familyOf 4 (some FieldType.int) := ⟨by decide, rfl, pw4_211, pw4_212, pw1_8, pw4_213⟩
theorem nd_X4_find : pg_nd yX4_find 2 := ⟨by decide +kernel, by decide +kernel, by decide +kernel⟩
theorem sl_X4_find : Cond.selects RX4 yX4_find yX4_find ∈ pg_W := pg_sel (q := (yX4_find, 9)) (List.mem_of_getElem? (i := 5) rfl) rfl
theorem vy_X4_find : pg_yV 4 yX4_find cX4_find 5 (some FieldType.int) := ⟨by decide, rfl, pw2_221, sl_X4_find, pw1_8, pw2_222⟩
theorem nd_X4_findNear : pg_nd yX4_findNear 1 := ⟨by decide +kernel, by decide +kernel, by decide +kernel⟩
theorem sl_X4_findNear : Cond.selects RX4 yX4_findNear yX4_findNear ∈ pg_W := pg_sel (q := (yX4_findNear, 9)) (List.mem_of_getElem? (i := 34) rfl) rfl
theorem vy_X4_findNear : pg_yV 4 yX4_findNear cX4_findNear 5 none := ⟨by decide, rfl, pw4_199, sl_X4_findNear, pw1_8, pw4_200⟩
theorem nd_X4_gather : pg_nd yX4_gather 2 := ⟨by decide +kernel, by decide +kernel, by decide +kernel⟩
theorem vy_X4_gather : pg_yV 4 yX4_gather cX4_gather 7 none := ⟨by decide, rfl, pw2_207, pw2_208, pw1_8, pw2_209⟩
theorem nd_X4_holdersOf : pg_nd yX4_holdersOf 2 := ⟨by decide +kernel, by decide +kernel, by decide +kernel⟩
theorem vy_X4_holdersOf : pg_yV 4 yX4_holdersOf cX4_holdersOf 4 (some FieldType.int) := ⟨by decide, rfl, pw3_49, pw3_50, pw1_8, pw3_51⟩
theorem nd_X4_init : pg_nd yX4_init 0 := ⟨by decide +kernel, by decide +kernel, by decide +kernel⟩
theorem vy_X4_init : pg_yI 4 yX4_init cX4_init 1 := ⟨by decide, rfl, rfl, pw1_189, pw1_8, pw1_190⟩
theorem nd_X4_ownCost : pg_nd yX4_ownCost 2 := ⟨by decide +kernel, by decide +kernel, by decide +kernel⟩
theorem vy_X4_ownCost : pg_yV 4 yX4_ownCost cX4_ownCost 5 (some FieldType.int) := ⟨by decide, rfl, pw4_69, pw4_70, pw1_8, pw4_71⟩
theorem nd_X4_sharedOf : pg_nd yX4_sharedOf 2 := ⟨by decide +kernel, by decide +kernel, by decide +kernel⟩
theorem vy_X4_sharedOf : pg_yV 4 yX4_sharedOf cX4_sharedOf 4 (some FieldType.int) := ⟨by decide, rfl, pw3_45, pw3_46, pw1_8, pw3_47⟩
theorem nd_X4_spread : pg_nd yX4_spread 2 := ⟨by decide +kernel, by decide +kernel, by decide +kernel⟩
theorem sl_X4_spread : Cond.selects RX4 yX4_spread yX4_spread ∈ pg_W := pg_sel (q := (yX4_spread, 9)) (List.mem_of_getElem? (i := 35) rfl) rfl
theorem vy_X4_spread : pg_yV 4 yX4_spread cX4_spread 7 (some FieldType.int) := ⟨by decide, rfl, pw4_204, sl_X4_spread, pw1_8, pw4_205⟩
theorem nd_X5_addNote : pg_nd yX5_addNote 5 := ⟨by decide +kernel, by decide +kernel, by decide +kernel⟩
theorem vy_X5_addNote : pg_yV 5 yX5_addNote cX5_addNote 7 (some FieldType.int) := ⟨by decide, rfl, pw2_194, pw2_195, pw1_2, pw2_196⟩
theorem nd_X5_addText : pg_nd yX5_addText 1 := ⟨by decide +kernel, by decide +kernel, by decide +kernel⟩
theorem vy_X5_addText : pg_yV 5 yX5_addText cX5_addText 2 (some FieldType.int) := ⟨by decide, rfl, pw4_23, pw4_24, pw1_2, pw4_25⟩
theorem nd_X5_allCopies : pg_nd yX5_allCopies 0 := ⟨by decide +kernel, by decide +kernel, by decide +kernel⟩
theorem vy_X5_allCopies : pg_yV 5 yX5_allCopies cX5_allCopies 1 (some FieldType.int) := ⟨by decide, rfl, pw4_61, pw4_62, pw1_2, pw4_63⟩
theorem nd_X5_chaptersWritten : pg_nd yX5_chaptersWritten 1 := ⟨by decide +kernel, by decide +kernel, by decide +kernel⟩
theorem vy_X5_chaptersWritten : pg_yV 5 yX5_chaptersWritten cX5_chaptersWritten 6 (some FieldType.int) := ⟨by decide, rfl, pw5_93, pw5_94, pw1_2, pw5_95⟩
theorem nd_X5_companions : pg_nd yX5_companions 1 := ⟨by decide +kernel, by decide +kernel, by decide +kernel⟩
theorem vy_X5_companions : pg_yV 5 yX5_companions cX5_companions 6 (some FieldType.int) := ⟨by decide, rfl, pw4_53, pw4_54, pw1_2, pw4_55⟩
theorem nd_X5_copiesLookedAt : pg_nd yX5_copiesLookedAt 0 := ⟨by decide +kernel, by decide +kernel, by decide +kernel⟩
theorem vy_X5_copiesLookedAt : pg_yV 5 yX5_copiesLookedAt cX5_copiesLookedAt 3 (some FieldType.int) := ⟨by decide, rfl, pw5_171, pw5_172, pw1_2, pw5_173⟩
theorem nd_X5_copiesWithHand : pg_nd yX5_copiesWithHand 1 := ⟨by decide +kernel, by decide +kernel, by decide +kernel⟩
theorem vy_X5_copiesWithHand : pg_yV 5 yX5_copiesWithHand cX5_copiesWithHand 4 (some FieldType.int) := ⟨by decide, rfl, pw5_42, pw5_43, pw1_2, pw5_44⟩
theorem nd_X5_firstYear : pg_nd yX5_firstYear 1 := ⟨by decide +kernel, by decide +kernel, by decide +kernel⟩
theorem vy_X5_firstYear : pg_yV 5 yX5_firstYear cX5_firstYear 7 (some FieldType.int) := ⟨by decide, rfl, pw5_50, pw5_51, pw1_2, pw5_52⟩
theorem nd_X5_handsIn : pg_nd yX5_handsIn 1 := ⟨by decide +kernel, by decide +kernel, by decide +kernel⟩
theorem sl_X5_handsIn : Cond.selects RX5 yX5_handsIn yX5_handsIn ∈ pg_W := pg_sel (q := (yX5_handsIn, 9)) (List.mem_of_getElem? (i := 39) rfl) rfl
theorem vy_X5_handsIn : pg_yV 5 yX5_handsIn cX5_handsIn 6 (some FieldType.int) := ⟨by decide, rfl, pw5_55, sl_X5_handsIn, pw1_2, pw5_56⟩
theorem nd_X5_hasNote : pg_nd yX5_hasNote 4 := ⟨by decide +kernel, by decide +kernel, by decide +kernel⟩
theorem vy_X5_hasNote : pg_yV 5 yX5_hasNote cX5_hasNote 6 (some FieldType.boolean) := ⟨by decide, rfl, pw2_185, pw2_186, pw1_2, pw2_187⟩
theorem nd_X5_init : pg_nd yX5_init 0 := ⟨by decide +kernel, by decide +kernel, by decide +kernel⟩
theorem vy_X5_init : pg_yI 5 yX5_init cX5_init 2 := ⟨by decide, rfl, rfl, pw1_34, pw1_2, pw1_35⟩
theorem nd_X5_isHandOrUnknown : pg_nd yX5_isHandOrUnknown 1 := ⟨by decide +kernel, by decide +kernel, by decide +kernel⟩
theorem vy_X5_isHandOrUnknown : pg_yV 5 yX5_isHandOrUnknown cX5_isHandOrUnknown 2 (some FieldType.boolean) := ⟨by decide, rfl, pw2_180, pw2_181, pw1_2, pw2_182⟩
theorem nd_X5_lastYear : pg_nd yX5_lastYear 1 := ⟨by decide +kernel, by decide +kernel, by decide +kernel⟩
theorem vy_X5_lastYear : pg_yV 5 yX5_lastYear cX5_lastYear 6 (some FieldType.int) := ⟨by decide, rfl, pw5_60, pw5_61, pw1_2, pw5_62⟩
theorem nd_X5_metDuring : pg_nd yX5_metDuring 2 := ⟨by decide +kernel, by decide +kernel, by decide +kernel⟩
theorem sl_X5_metDuring : Cond.selects RX5 yX5_metDuring yX5_metDuring ∈ pg_W := pg_sel (q := (yX5_metDuring, 9)) (List.mem_of_getElem? (i := 27) rfl) rfl
theorem vy_X5_metDuring : pg_yV 5 yX5_metDuring cX5_metDuring 7 (some FieldType.boolean) := ⟨by decide, rfl, pw4_58, sl_X5_metDuring, pw1_2, pw4_59⟩
theorem nd_X5_notesWritten : pg_nd yX5_notesWritten 0 := ⟨by decide +kernel, by decide +kernel, by decide +kernel⟩
theorem vy_X5_notesWritten : pg_yV 5 yX5_notesWritten cX5_notesWritten 3 (some FieldType.int) := ⟨by decide, rfl, pw6_22, pw6_23, pw1_2, pw6_24⟩
theorem nd_X5_placesOfKind : pg_nd yX5_placesOfKind 2 := ⟨by decide +kernel, by decide +kernel, by decide +kernel⟩
theorem vy_X5_placesOfKind : pg_yV 5 yX5_placesOfKind cX5_placesOfKind 7 (some FieldType.long) := ⟨by decide, rfl, pw5_97, pw5_98, pw1_2, pw5_99⟩
theorem nd_X5_takeFrom : pg_nd yX5_takeFrom 1 := ⟨by decide +kernel, by decide +kernel, by decide +kernel⟩
theorem vy_X5_takeFrom : pg_yV 5 yX5_takeFrom cX5_takeFrom 3 none := ⟨by decide, rfl, pw6_3, pw6_4, pw1_2, pw6_5⟩
theorem nd_X5_textOf : pg_nd yX5_textOf 1 := ⟨by decide +kernel, by decide +kernel, by decide +kernel⟩
theorem vy_X5_textOf : pg_yV 5 yX5_textOf cX5_textOf 2 (some (FieldType.object "SkyMargins$Text")) := ⟨by decide, rfl, pw3_3, pw3_4, pw1_2, pw3_5⟩
theorem nd_X5_textUsed : pg_nd yX5_textUsed 0 := ⟨by decide +kernel, by decide +kernel, by decide +kernel⟩
theorem vy_X5_textUsed : pg_yV 5 yX5_textUsed cX5_textUsed 1 (some (FieldType.object "SkyMargins$Text")) := ⟨by decide, rfl, pw2_239, pw3_0, pw1_2, pw3_1⟩
theorem nd_X6_comesOf : pg_nd yX6_comesOf 2 := ⟨by decide +kernel, by decide +kernel, by decide +kernel⟩
theorem vy_X6_comesOf : pg_yV 6 yX6_comesOf cX6_comesOf 5 (some FieldType.boolean) := ⟨by decide, rfl, pw4_153, pw4_154, pw1_9, pw4_155⟩
theorem nd_X6_exemplarOf : pg_nd yX6_exemplarOf 1 := ⟨by decide +kernel, by decide +kernel, by decide +kernel⟩
theorem vy_X6_exemplarOf : pg_yV 6 yX6_exemplarOf cX6_exemplarOf 2 (some FieldType.int) := ⟨by decide, rfl, pw4_132, pw4_133, pw1_9, pw4_134⟩
theorem nd_X6_findCosts : pg_nd yX6_findCosts 2 := ⟨by decide +kernel, by decide +kernel, by decide +kernel⟩
theorem sl_X6_findCosts : Cond.selects RX6 yX6_findCosts yX6_findCosts ∈ pg_W := pg_sel (q := (yX6_findCosts, 9)) (List.mem_of_getElem? (i := 29) rfl) rfl
theorem vy_X6_findCosts : pg_yV 6 yX6_findCosts cX6_findCosts 6 none := ⟨by decide, rfl, pw4_90, sl_X6_findCosts, pw1_9, pw4_91⟩
theorem nd_X6_findGroups : pg_nd yX6_findGroups 1 := ⟨by decide +kernel, by decide +kernel, by decide +kernel⟩
theorem sl_X6_findGroups : Cond.selects RX6 yX6_findGroups yX6_findGroups ∈ pg_W := pg_sel (q := (yX6_findGroups, 9)) (List.mem_of_getElem? (i := 32) rfl) rfl
theorem vy_X6_findGroups : pg_yV 6 yX6_findGroups cX6_findGroups 6 (some FieldType.int) := ⟨by decide, rfl, pw4_113, sl_X6_findGroups, pw1_9, pw4_114⟩
theorem nd_X6_grow : pg_nd yX6_grow 2 := ⟨by decide +kernel, by decide +kernel, by decide +kernel⟩
theorem vy_X6_grow : pg_yV 6 yX6_grow cX6_grow 10 none := ⟨by decide, rfl, pw4_85, pw4_86, pw1_9, pw4_87⟩
theorem nd_X6_init : pg_nd yX6_init 0 := ⟨by decide +kernel, by decide +kernel, by decide +kernel⟩
theorem vy_X6_init : pg_yI 6 yX6_init cX6_init 1 := ⟨by decide, rfl, rfl, pw1_223, pw1_9, pw1_224⟩
theorem nd_X6_isSure : pg_nd yX6_isSure 1 := ⟨by decide +kernel, by decide +kernel, by decide +kernel⟩
theorem vy_X6_isSure : pg_yV 6 yX6_isSure cX6_isSure 3 (some FieldType.boolean) := ⟨by decide, rfl, pw4_140, pw4_141, pw1_9, pw4_142⟩
theorem nd_X6_leastCost : pg_nd yX6_leastCost 0 := ⟨by decide +kernel, by decide +kernel, by decide +kernel⟩
theorem vy_X6_leastCost : pg_yV 6 yX6_leastCost cX6_leastCost 1 (some FieldType.int) := ⟨by decide, rfl, pw4_124, pw4_125, pw1_9, pw4_126⟩
theorem nd_X6_leastSum : pg_nd yX6_leastSum 0 := ⟨by decide +kernel, by decide +kernel, by decide +kernel⟩
theorem sl_X6_leastSum : Cond.selects RX6 yX6_leastSum yX6_leastSum ∈ pg_W := pg_sel (q := (yX6_leastSum, 9)) (List.mem_of_getElem? (i := 30) rfl) rfl
theorem vy_X6_leastSum : pg_yV 6 yX6_leastSum cX6_leastSum 6 (some FieldType.long) := ⟨by decide, rfl, pw4_104, sl_X6_leastSum, pw1_9, pw4_105⟩
theorem nd_X6_mergeGroups : pg_nd yX6_mergeGroups 1 := ⟨by decide +kernel, by decide +kernel, by decide +kernel⟩
theorem sl_X6_mergeGroups : Cond.selects RX6 yX6_mergeGroups yX6_mergeGroups ∈ pg_W := pg_sel (q := (yX6_mergeGroups, 9)) (List.mem_of_getElem? (i := 33) rfl) rfl
theorem vy_X6_mergeGroups : pg_yV 6 yX6_mergeGroups cX6_mergeGroups 9 none := ⟨by decide, rfl, pw4_117, sl_X6_mergeGroups, pw1_9, pw4_118⟩
theorem nd_X6_nearestTo : pg_nd yX6_nearestTo 2 := ⟨by decide +kernel, by decide +kernel, by decide +kernel⟩
theorem sl_X6_nearestTo : Cond.selects RX6 yX6_nearestTo yX6_nearestTo ∈ pg_W := pg_sel (q := (yX6_nearestTo, 9)) (List.mem_of_getElem? (i := 31) rfl) rfl
theorem vy_X6_nearestTo : pg_yV 6 yX6_nearestTo cX6_nearestTo 7 (some FieldType.int) := ⟨by decide, rfl, pw4_108, sl_X6_nearestTo, pw1_9, pw4_109⟩
theorem nd_X6_stepsFromNobody : pg_nd yX6_stepsFromNobody 1 := ⟨by decide +kernel, by decide +kernel, by decide +kernel⟩
theorem vy_X6_stepsFromNobody : pg_yV 6 yX6_stepsFromNobody cX6_stepsFromNobody 5 (some FieldType.int) := ⟨by decide, rfl, pw4_149, pw4_150, pw1_9, pw4_151⟩
theorem nd_X7_at : pg_nd yX7_at 2 := ⟨by decide +kernel, by decide +kernel, by decide +kernel⟩
theorem vy_X7_at : pg_yV 7 yX7_at cX7_at 3 (some FieldType.int) := ⟨by decide, rfl, pw2_190, pw2_191, pw1_3, pw2_192⟩
theorem nd_X7_holds : pg_nd yX7_holds 1 := ⟨by decide +kernel, by decide +kernel, by decide +kernel⟩
theorem vy_X7_holds : pg_yV 7 yX7_holds cX7_holds 2 (some FieldType.boolean) := ⟨by decide, rfl, pw1_71, pw1_72, pw1_3, pw1_73⟩
theorem nd_X7_init : pg_nd yX7_init 2 := ⟨by decide +kernel, by decide +kernel, by decide +kernel⟩
theorem vy_X7_init : pg_yI 7 yX7_init cX7_init 3 := ⟨by decide, rfl, rfl, pw1_40, pw1_3, pw1_41⟩
theorem nd_X7_open : pg_nd yX7_open 0 := ⟨by decide +kernel, by decide +kernel, by decide +kernel⟩
theorem vy_X7_open : pg_yV 7 yX7_open cX7_open 3 (some FieldType.int) := ⟨by decide, rfl, pw1_63, pw1_64, pw1_3, pw1_65⟩
theorem nd_X7_put : pg_nd yX7_put 3 := ⟨by decide +kernel, by decide +kernel, by decide +kernel⟩
theorem vy_X7_put : pg_yV 7 yX7_put cX7_put 6 (some FieldType.int) := ⟨by decide, rfl, pw1_67, pw1_68, pw1_3, pw1_69⟩
theorem nd_X7_size : pg_nd yX7_size 0 := ⟨by decide +kernel, by decide +kernel, by decide +kernel⟩
theorem vy_X7_size : pg_yV 7 yX7_size cX7_size 1 (some FieldType.int) := ⟨by decide, rfl, pw2_157, pw2_158, pw1_3, pw2_159⟩
theorem nd_X7_takeFrom : pg_nd yX7_takeFrom 1 := ⟨by decide +kernel, by decide +kernel, by decide +kernel⟩
theorem vy_X7_takeFrom : pg_yV 7 yX7_takeFrom cX7_takeFrom 2 none := ⟨by decide, rfl, pw6_7, pw6_8, pw1_3, pw6_9⟩
theorem nd_X8_byteAt : pg_nd yX8_byteAt 1 := ⟨by decide +kernel, by decide +kernel, by decide +kernel⟩
theorem vy_X8_byteAt : pg_yV 8 yX8_byteAt cX8_byteAt 2 (some FieldType.int) := ⟨by decide, rfl, pw3_98, pw3_99, pw1_5, pw3_100⟩
theorem nd_X8_hasRoomFor : pg_nd yX8_hasRoomFor 1 := ⟨by decide +kernel, by decide +kernel, by decide +kernel⟩
theorem vy_X8_hasRoomFor : pg_yV 8 yX8_hasRoomFor cX8_hasRoomFor 2 (some FieldType.boolean) := ⟨by decide, rfl, pw3_66, pw3_67, pw1_5, pw3_68⟩
theorem nd_X8_init : pg_nd yX8_init 0 := ⟨by decide +kernel, by decide +kernel, by decide +kernel⟩
theorem vy_X8_init : pg_yI 8 yX8_init cX8_init 1 := ⟨by decide, rfl, rfl, pw1_123, pw1_5, pw1_124⟩
theorem nd_X8_putNumber : pg_nd yX8_putNumber 1 := ⟨by decide +kernel, by decide +kernel, by decide +kernel⟩
theorem vy_X8_putNumber : pg_yV 8 yX8_putNumber cX8_putNumber 3 none := ⟨by decide, rfl, pw3_70, pw3_71, pw1_5, pw3_72⟩
theorem nd_X8_shorten : pg_nd yX8_shorten 1 := ⟨by decide +kernel, by decide +kernel, by decide +kernel⟩
theorem vy_X8_shorten : pg_yV 8 yX8_shorten cX8_shorten 2 none := ⟨by decide, rfl, pw3_82, pw3_83, pw1_5, pw3_84⟩
theorem nd_X8_size : pg_nd yX8_size 0 := ⟨by decide +kernel, by decide +kernel, by decide +kernel⟩
theorem vy_X8_size : pg_yV 8 yX8_size cX8_size 1 (some FieldType.int) := ⟨by decide, rfl, pw3_74, pw3_75, pw1_5, pw3_76⟩
theorem nd_X9_codeAt : pg_nd yX9_codeAt 1 := ⟨by decide +kernel, by decide +kernel, by decide +kernel⟩
theorem vy_X9_codeAt : pg_yV 9 yX9_codeAt cX9_codeAt 2 (some FieldType.int) := ⟨by decide, rfl, pw3_15, pw3_16, pw1_20, pw3_17⟩
theorem nd_X9_init : pg_nd yX9_init 2 := ⟨by decide +kernel, by decide +kernel, by decide +kernel⟩
theorem vy_X9_init : pg_yI 9 yX9_init cX9_init 3 := ⟨by decide, rfl, rfl, pw3_234, pw1_20, pw3_235⟩
theorem nd_X9_length : pg_nd yX9_length 0 := ⟨by decide +kernel, by decide +kernel, by decide +kernel⟩
theorem vy_X9_length : pg_yV 9 yX9_length cX9_length 1 (some FieldType.int) := ⟨by decide, rfl, pw3_11, pw3_12, pw1_20, pw3_13⟩
theorem cb_m6 : (Int8.ofInt (-6)).toInt32 = (-6 : Int32) := by decide
theorem cb_m5 : (Int8.ofInt (-5)).toInt32 = (-5 : Int32) := by decide
theorem cb_m3 : (Int8.ofInt (-3)).toInt32 = (-3 : Int32) := by decide
theorem cb_m2 : (Int8.ofInt (-2)).toInt32 = (-2 : Int32) := by decide
theorem cb_6 : (Int8.ofInt (6)).toInt32 = (6 : Int32) := by decide
theorem cb_7 : (Int8.ofInt (7)).toInt32 = (7 : Int32) := by decide
theorem cb_8 : (Int8.ofInt (8)).toInt32 = (8 : Int32) := by decide
theorem cb_9 : (Int8.ofInt (9)).toInt32 = (9 : Int32) := by decide
theorem cb_10 : (Int8.ofInt (10)).toInt32 = (10 : Int32) := by decide
theorem cb_11 : (Int8.ofInt (11)).toInt32 = (11 : Int32) := by decide
theorem cb_12 : (Int8.ofInt (12)).toInt32 = (12 : Int32) := by decide
theorem cb_13 : (Int8.ofInt (13)).toInt32 = (13 : Int32) := by decide
theorem cb_14 : (Int8.ofInt (14)).toInt32 = (14 : Int32) := by decide
theorem cb_15 : (Int8.ofInt (15)).toInt32 = (15 : Int32) := by decide
theorem cb_16 : (Int8.ofInt (16)).toInt32 = (16 : Int32) := by decide
theorem cb_17 : (Int8.ofInt (17)).toInt32 = (17 : Int32) := by decide
theorem cb_18 : (Int8.ofInt (18)).toInt32 = (18 : Int32) := by decide
theorem cb_19 : (Int8.ofInt (19)).toInt32 = (19 : Int32) := by decide
theorem cb_20 : (Int8.ofInt (20)).toInt32 = (20 : Int32) := by decide
theorem cb_21 : (Int8.ofInt (21)).toInt32 = (21 : Int32) := by decide
theorem cb_22 : (Int8.ofInt (22)).toInt32 = (22 : Int32) := by decide
theorem cb_23 : (Int8.ofInt (23)).toInt32 = (23 : Int32) := by decide
theorem cb_24 : (Int8.ofInt (24)).toInt32 = (24 : Int32) := by decide
theorem cb_25 : (Int8.ofInt (25)).toInt32 = (25 : Int32) := by decide
theorem cb_26 : (Int8.ofInt (26)).toInt32 = (26 : Int32) := by decide
theorem cb_27 : (Int8.ofInt (27)).toInt32 = (27 : Int32) := by decide
theorem cb_28 : (Int8.ofInt (28)).toInt32 = (28 : Int32) := by decide
theorem cb_29 : (Int8.ofInt (29)).toInt32 = (29 : Int32) := by decide
theorem cb_30 : (Int8.ofInt (30)).toInt32 = (30 : Int32) := by decide
theorem cb_31 : (Int8.ofInt (31)).toInt32 = (31 : Int32) := by decide
theorem cb_32 : (Int8.ofInt (32)).toInt32 = (32 : Int32) := by decide
theorem cb_33 : (Int8.ofInt (33)).toInt32 = (33 : Int32) := by decide
theorem cb_34 : (Int8.ofInt (34)).toInt32 = (34 : Int32) := by decide
theorem cb_35 : (Int8.ofInt (35)).toInt32 = (35 : Int32) := by decide
theorem cb_36 : (Int8.ofInt (36)).toInt32 = (36 : Int32) := by decide
theorem cb_37 : (Int8.ofInt (37)).toInt32 = (37 : Int32) := by decide
theorem cb_38 : (Int8.ofInt (38)).toInt32 = (38 : Int32) := by decide
theorem cb_39 : (Int8.ofInt (39)).toInt32 = (39 : Int32) := by decide
theorem cb_40 : (Int8.ofInt (40)).toInt32 = (40 : Int32) := by decide
theorem cb_41 : (Int8.ofInt (41)).toInt32 = (41 : Int32) := by decide
theorem cb_42 : (Int8.ofInt (42)).toInt32 = (42 : Int32) := by decide
theorem cb_43 : (Int8.ofInt (43)).toInt32 = (43 : Int32) := by decide
theorem cb_44 : (Int8.ofInt (44)).toInt32 = (44 : Int32) := by decide
theorem cb_45 : (Int8.ofInt (45)).toInt32 = (45 : Int32) := by decide
theorem cb_46 : (Int8.ofInt (46)).toInt32 = (46 : Int32) := by decide
theorem cb_47 : (Int8.ofInt (47)).toInt32 = (47 : Int32) := by decide
theorem cb_48 : (Int8.ofInt (48)).toInt32 = (48 : Int32) := by decide
theorem cb_49 : (Int8.ofInt (49)).toInt32 = (49 : Int32) := by decide
theorem cb_50 : (Int8.ofInt (50)).toInt32 = (50 : Int32) := by decide
theorem cb_51 : (Int8.ofInt (51)).toInt32 = (51 : Int32) := by decide
theorem cb_52 : (Int8.ofInt (52)).toInt32 = (52 : Int32) := by decide
theorem cb_53 : (Int8.ofInt (53)).toInt32 = (53 : Int32) := by decide
theorem cb_54 : (Int8.ofInt (54)).toInt32 = (54 : Int32) := by decide
theorem cb_55 : (Int8.ofInt (55)).toInt32 = (55 : Int32) := by decide
theorem cb_56 : (Int8.ofInt (56)).toInt32 = (56 : Int32) := by decide
theorem cb_57 : (Int8.ofInt (57)).toInt32 = (57 : Int32) := by decide
theorem cb_58 : (Int8.ofInt (58)).toInt32 = (58 : Int32) := by decide
theorem cb_59 : (Int8.ofInt (59)).toInt32 = (59 : Int32) := by decide
theorem cb_60 : (Int8.ofInt (60)).toInt32 = (60 : Int32) := by decide
theorem cb_61 : (Int8.ofInt (61)).toInt32 = (61 : Int32) := by decide
theorem cb_62 : (Int8.ofInt (62)).toInt32 = (62 : Int32) := by decide
theorem cb_63 : (Int8.ofInt (63)).toInt32 = (63 : Int32) := by decide
theorem cb_64 : (Int8.ofInt (64)).toInt32 = (64 : Int32) := by decide
theorem cb_65 : (Int8.ofInt (65)).toInt32 = (65 : Int32) := by decide
theorem cb_66 : (Int8.ofInt (66)).toInt32 = (66 : Int32) := by decide
theorem cb_67 : (Int8.ofInt (67)).toInt32 = (67 : Int32) := by decide
theorem cb_68 : (Int8.ofInt (68)).toInt32 = (68 : Int32) := by decide
theorem cb_69 : (Int8.ofInt (69)).toInt32 = (69 : Int32) := by decide
theorem cb_70 : (Int8.ofInt (70)).toInt32 = (70 : Int32) := by decide
theorem cb_71 : (Int8.ofInt (71)).toInt32 = (71 : Int32) := by decide
theorem cb_72 : (Int8.ofInt (72)).toInt32 = (72 : Int32) := by decide
theorem cb_73 : (Int8.ofInt (73)).toInt32 = (73 : Int32) := by decide
theorem cb_74 : (Int8.ofInt (74)).toInt32 = (74 : Int32) := by decide
theorem cb_75 : (Int8.ofInt (75)).toInt32 = (75 : Int32) := by decide
theorem cb_76 : (Int8.ofInt (76)).toInt32 = (76 : Int32) := by decide
theorem cb_77 : (Int8.ofInt (77)).toInt32 = (77 : Int32) := by decide
theorem cb_78 : (Int8.ofInt (78)).toInt32 = (78 : Int32) := by decide
theorem cb_79 : (Int8.ofInt (79)).toInt32 = (79 : Int32) := by decide
theorem cb_80 : (Int8.ofInt (80)).toInt32 = (80 : Int32) := by decide
theorem cb_81 : (Int8.ofInt (81)).toInt32 = (81 : Int32) := by decide
theorem cb_82 : (Int8.ofInt (82)).toInt32 = (82 : Int32) := by decide
theorem cb_83 : (Int8.ofInt (83)).toInt32 = (83 : Int32) := by decide
theorem cb_84 : (Int8.ofInt (84)).toInt32 = (84 : Int32) := by decide
theorem cb_85 : (Int8.ofInt (85)).toInt32 = (85 : Int32) := by decide
theorem cb_86 : (Int8.ofInt (86)).toInt32 = (86 : Int32) := by decide
theorem cb_87 : (Int8.ofInt (87)).toInt32 = (87 : Int32) := by decide
theorem cb_88 : (Int8.ofInt (88)).toInt32 = (88 : Int32) := by decide
theorem cb_89 : (Int8.ofInt (89)).toInt32 = (89 : Int32) := by decide
theorem cb_90 : (Int8.ofInt (90)).toInt32 = (90 : Int32) := by decide
theorem cb_91 : (Int8.ofInt (91)).toInt32 = (91 : Int32) := by decide
theorem cb_92 : (Int8.ofInt (92)).toInt32 = (92 : Int32) := by decide
theorem cb_93 : (Int8.ofInt (93)).toInt32 = (93 : Int32) := by decide
theorem cb_94 : (Int8.ofInt (94)).toInt32 = (94 : Int32) := by decide
theorem cb_95 : (Int8.ofInt (95)).toInt32 = (95 : Int32) := by decide
theorem cb_96 : (Int8.ofInt (96)).toInt32 = (96 : Int32) := by decide
theorem cb_97 : (Int8.ofInt (97)).toInt32 = (97 : Int32) := by decide
theorem cb_98 : (Int8.ofInt (98)).toInt32 = (98 : Int32) := by decide
theorem cb_99 : (Int8.ofInt (99)).toInt32 = (99 : Int32) := by decide
theorem cb_100 : (Int8.ofInt (100)).toInt32 = (100 : Int32) := by decide
theorem cb_101 : (Int8.ofInt (101)).toInt32 = (101 : Int32) := by decide
theorem cb_102 : (Int8.ofInt (102)).toInt32 = (102 : Int32) := by decide
theorem cb_103 : (Int8.ofInt (103)).toInt32 = (103 : Int32) := by decide
theorem cb_104 : (Int8.ofInt (104)).toInt32 = (104 : Int32) := by decide
theorem cb_105 : (Int8.ofInt (105)).toInt32 = (105 : Int32) := by decide
theorem cb_106 : (Int8.ofInt (106)).toInt32 = (106 : Int32) := by decide
theorem cb_107 : (Int8.ofInt (107)).toInt32 = (107 : Int32) := by decide
theorem cb_108 : (Int8.ofInt (108)).toInt32 = (108 : Int32) := by decide
theorem cb_109 : (Int8.ofInt (109)).toInt32 = (109 : Int32) := by decide
theorem cb_110 : (Int8.ofInt (110)).toInt32 = (110 : Int32) := by decide
theorem cb_111 : (Int8.ofInt (111)).toInt32 = (111 : Int32) := by decide
theorem cb_112 : (Int8.ofInt (112)).toInt32 = (112 : Int32) := by decide
theorem cb_113 : (Int8.ofInt (113)).toInt32 = (113 : Int32) := by decide
theorem cb_114 : (Int8.ofInt (114)).toInt32 = (114 : Int32) := by decide
theorem cb_115 : (Int8.ofInt (115)).toInt32 = (115 : Int32) := by decide
theorem cb_116 : (Int8.ofInt (116)).toInt32 = (116 : Int32) := by decide
theorem cb_117 : (Int8.ofInt (117)).toInt32 = (117 : Int32) := by decide
theorem cb_119 : (Int8.ofInt (119)).toInt32 = (119 : Int32) := by decide
theorem cb_122 : (Int8.ofInt (122)).toInt32 = (122 : Int32) := by decide
theorem cb_127 : (Int8.ofInt (127)).toInt32 = (127 : Int32) := by decide
theorem ci_m16 : Int32.ofInt (-16) = (-16 : Int32) := by decide
theorem ci_m8 : Int32.ofInt (-8) = (-8 : Int32) := by decide
theorem ci_m4 : Int32.ofInt (-4) = (-4 : Int32) := by decide
theorem ci_m2 : Int32.ofInt (-2) = (-2 : Int32) := by decide
theorem ci_m1 : Int32.ofInt (-1) = (-1 : Int32) := by decide
theorem ci_0 : Int32.ofInt (0) = (0 : Int32) := by decide
theorem ci_1 : Int32.ofInt (1) = (1 : Int32) := by decide
theorem ci_2 : Int32.ofInt (2) = (2 : Int32) := by decide
theorem ci_3 : Int32.ofInt (3) = (3 : Int32) := by decide
theorem ci_4 : Int32.ofInt (4) = (4 : Int32) := by decide
theorem ci_5 : Int32.ofInt (5) = (5 : Int32) := by decide
theorem ci_6 : Int32.ofInt (6) = (6 : Int32) := by decide
theorem ci_8 : Int32.ofInt (8) = (8 : Int32) := by decide
theorem ci_16 : Int32.ofInt (16) = (16 : Int32) := by decide
theorem cl_0 : Int64.ofNat (((0 : Fin 2)) : Nat) = (0 : Int64) := by decide
theorem cl_1 : Int64.ofNat (((1 : Fin 2)) : Nat) = (1 : Int64) := by decide
theorem cs_140 : (Int16.ofInt (140)).toInt32 = (140 : Int32) := by decide
theorem cs_142 : (Int16.ofInt (142)).toInt32 = (142 : Int32) := by decide
theorem cs_143 : (Int16.ofInt (143)).toInt32 = (143 : Int32) := by decide
theorem cs_144 : (Int16.ofInt (144)).toInt32 = (144 : Int32) := by decide
theorem cs_145 : (Int16.ofInt (145)).toInt32 = (145 : Int32) := by decide
theorem cs_147 : (Int16.ofInt (147)).toInt32 = (147 : Int32) := by decide
theorem cs_156 : (Int16.ofInt (156)).toInt32 = (156 : Int32) := by decide
theorem cs_160 : (Int16.ofInt (160)).toInt32 = (160 : Int32) := by decide
theorem cs_161 : (Int16.ofInt (161)).toInt32 = (161 : Int32) := by decide
theorem cs_162 : (Int16.ofInt (162)).toInt32 = (162 : Int32) := by decide
theorem cs_169 : (Int16.ofInt (169)).toInt32 = (169 : Int32) := by decide
theorem cs_191 : (Int16.ofInt (191)).toInt32 = (191 : Int32) := by decide
theorem cs_196 : (Int16.ofInt (196)).toInt32 = (196 : Int32) := by decide
theorem cs_200 : (Int16.ofInt (200)).toInt32 = (200 : Int32) := by decide
theorem cs_255 : (Int16.ofInt (255)).toInt32 = (255 : Int32) := by decide
theorem cs_256 : (Int16.ofInt (256)).toInt32 = (256 : Int32) := by decide
theorem cs_292 : (Int16.ofInt (292)).toInt32 = (292 : Int32) := by decide
theorem cs_330 : (Int16.ofInt (330)).toInt32 = (330 : Int32) := by decide
theorem cs_340 : (Int16.ofInt (340)).toInt32 = (340 : Int32) := by decide
theorem cs_379 : (Int16.ofInt (379)).toInt32 = (379 : Int32) := by decide
theorem cs_380 : (Int16.ofInt (380)).toInt32 = (380 : Int32) := by decide
theorem cs_400 : (Int16.ofInt (400)).toInt32 = (400 : Int32) := by decide
theorem cs_401 : (Int16.ofInt (401)).toInt32 = (401 : Int32) := by decide
theorem cs_1000 : (Int16.ofInt (1000)).toInt32 = (1000 : Int32) := by decide
theorem cs_1001 : (Int16.ofInt (1001)).toInt32 = (1001 : Int32) := by decide
theorem cs_1340 : (Int16.ofInt (1340)).toInt32 = (1340 : Int32) := by decide
theorem cs_1341 : (Int16.ofInt (1341)).toInt32 = (1341 : Int32) := by decide
theorem cs_1342 : (Int16.ofInt (1342)).toInt32 = (1342 : Int32) := by decide
theorem cs_1343 : (Int16.ofInt (1343)).toInt32 = (1343 : Int32) := by decide
theorem cs_1344 : (Int16.ofInt (1344)).toInt32 = (1344 : Int32) := by decide
theorem cs_1345 : (Int16.ofInt (1345)).toInt32 = (1345 : Int32) := by decide
theorem cs_1346 : (Int16.ofInt (1346)).toInt32 = (1346 : Int32) := by decide
theorem cs_1347 : (Int16.ofInt (1347)).toInt32 = (1347 : Int32) := by decide
theorem cs_1348 : (Int16.ofInt (1348)).toInt32 = (1348 : Int32) := by decide
theorem cs_1349 : (Int16.ofInt (1349)).toInt32 = (1349 : Int32) := by decide
theorem cs_1350 : (Int16.ofInt (1350)).toInt32 = (1350 : Int32) := by decide
theorem cs_1358 : (Int16.ofInt (1358)).toInt32 = (1358 : Int32) := by decide
theorem cs_1728 : (Int16.ofInt (1728)).toInt32 = (1728 : Int32) := by decide
theorem cs_4095 : (Int16.ofInt (4095)).toInt32 = (4095 : Int32) := by decide
theorem cs_4096 : (Int16.ofInt (4096)).toInt32 = (4096 : Int32) := by decide
theorem cs_4558 : (Int16.ofInt (4558)).toInt32 = (4558 : Int32) := by decide
theorem cs_7758 : (Int16.ofInt (7758)).toInt32 = (7758 : Int32) := by decide
theorem cs_15516 : (Int16.ofInt (15516)).toInt32 = (15516 : Int32) := by decide
