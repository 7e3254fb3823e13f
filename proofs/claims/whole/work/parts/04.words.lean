def gt : List Cond := lw_tbl.filter goodWord
def nw : List Cond := [(Jvm.Cond.methodLinkNest "LawfulLots" (15 : Nat) ({ cls := "LawfulLots$Reader", name := "<init>", desc := "()V" } : Jvm.MethodName) "LawfulLots"), (Jvm.Cond.methodLinkNest "LawfulLots$Reader" (11 : Nat) ({ cls := "LawfulLots$Scanner", name := "<init>", desc := "()V" } : Jvm.MethodName) "LawfulLots"), (Jvm.Cond.methodLinkNest "LawfulLots$Reader" (24 : Nat) ({ cls := "LawfulLots$Book", name := "<init>", desc := "()V" } : Jvm.MethodName) "LawfulLots"), (Jvm.Cond.methodLinkNest "LawfulLots" (22 : Nat) ({ cls := "LawfulLots$Chart", name := "<init>", desc := "()V" } : Jvm.MethodName) "LawfulLots"), (Jvm.Cond.methodLinkNest "LawfulLots$Chart" (11 : Nat) ({ cls := "LawfulLots$Machine", name := "<init>", desc := "()V" } : Jvm.MethodName) "LawfulLots"), (Jvm.Cond.methodLinkNest "LawfulLots$Chart" (42 : Nat) ({ cls := "LawfulLots$Book", name := "<init>", desc := "()V" } : Jvm.MethodName) "LawfulLots"), (Jvm.Cond.methodLinkNest "LawfulLots" (29 : Nat) ({ cls := "LawfulLots$Log", name := "<init>", desc := "()V" } : Jvm.MethodName) "LawfulLots"), (Jvm.Cond.methodLinkNest "LawfulLots" (36 : Nat) ({ cls := "LawfulLots$BinTable", name := "<init>", desc := "()V" } : Jvm.MethodName) "LawfulLots"), (Jvm.Cond.methodLinkNest "LawfulLots" (43 : Nat) ({ cls := "LawfulLots$Chains", name := "<init>", desc := "()V" } : Jvm.MethodName) "LawfulLots"), (Jvm.Cond.methodLinkNest "LawfulLots$Chains" (11 : Nat) ({ cls := "LawfulLots$Machine", name := "<init>", desc := "()V" } : Jvm.MethodName) "LawfulLots"), (Jvm.Cond.fieldLinkNest "LawfulLots$Scanner" (71 : Nat) "LawfulLots" "WORDS" "[J" "LawfulLots"), (Jvm.Cond.methodLinkNest "LawfulLots$Chart" (133 : Nat) ({ cls := "LawfulLots", name := "addSupersets", desc := "([II)V" } : Jvm.MethodName) "LawfulLots"), (Jvm.Cond.methodLinkNest "LawfulLots$BinTable" (74 : Nat) ({ cls := "LawfulLots", name := "addSupersets", desc := "([II)V" } : Jvm.MethodName) "LawfulLots")]
theorem nw_tbl : ∀ w ∈ nw, w ∈ lw_tbl := by decide +kernel
theorem ig_Lots : ∀ w ∈ u_ws R_Lots T_Lots 8, w ∈ gt := fun w h => List.mem_filter.mpr ⟨iw_Lots w h, List.all_eq_true.mp (by decide +kernel : (u_ws R_Lots T_Lots 8).all goodWord = true) w h⟩
theorem ig_Reader : ∀ w ∈ u_ws R_Reader T_Reader 17, w ∈ gt := fun w h => List.mem_filter.mpr ⟨iw_Reader w h, List.all_eq_true.mp (by decide +kernel : (u_ws R_Reader T_Reader 17).all goodWord = true) w h⟩
theorem ig_Scanner : ∀ w ∈ u_ws R_Scanner T_Scanner 7, w ∈ gt := fun w h => List.mem_filter.mpr ⟨iw_Scanner w h, List.all_eq_true.mp (by decide +kernel : (u_ws R_Scanner T_Scanner 7).all goodWord = true) w h⟩
theorem ig_Book : ∀ w ∈ u_ws R_Book T_Book 13, w ∈ gt := fun w h => List.mem_filter.mpr ⟨iw_Book w h, List.all_eq_true.mp (by decide +kernel : (u_ws R_Book T_Book 13).all goodWord = true) w h⟩
theorem ig_Chart : ∀ w ∈ u_ws R_Chart T_Chart 18, w ∈ gt := fun w h => List.mem_filter.mpr ⟨iw_Chart w h, List.all_eq_true.mp (by decide +kernel : (u_ws R_Chart T_Chart 18).all goodWord = true) w h⟩
theorem ig_Machine : ∀ w ∈ u_ws R_Machine T_Machine 1, w ∈ gt := fun w h => List.mem_filter.mpr ⟨iw_Machine w h, List.all_eq_true.mp (by decide +kernel : (u_ws R_Machine T_Machine 1).all goodWord = true) w h⟩
theorem ig_Log : ∀ w ∈ u_ws R_Log T_Log 2, w ∈ gt := fun w h => List.mem_filter.mpr ⟨iw_Log w h, List.all_eq_true.mp (by decide +kernel : (u_ws R_Log T_Log 2).all goodWord = true) w h⟩
theorem ig_Bins : ∀ w ∈ u_ws R_Bins T_Bins 11, w ∈ gt := fun w h => List.mem_filter.mpr ⟨iw_Bins w h, List.all_eq_true.mp (by decide +kernel : (u_ws R_Bins T_Bins 11).all goodWord = true) w h⟩
theorem ig_Chains : ∀ w ∈ u_ws R_Chains T_Chains 7, w ∈ gt := fun w h => List.mem_filter.mpr ⟨iw_Chains w h, List.all_eq_true.mp (by decide +kernel : (u_ws R_Chains T_Chains 7).all goodWord = true) w h⟩
theorem ig_Model : ∀ w ∈ u_ws R_Model T_Model 67, w ∈ gt := fun w h => List.mem_filter.mpr ⟨iw_Model w h, List.all_eq_true.mp (by decide +kernel : (u_ws R_Model T_Model 67).all goodWord = true) w h⟩
theorem in_1 {w : Cond} (h : w ∈ tables_1_1) : w ∈ lw_tbl := List.mem_append_right _ (List.mem_append_left _ h)
theorem in_2 {w : Cond} (h : w ∈ tables_1_2) : w ∈ lw_tbl := List.mem_append_right _ (List.mem_append_right _ (List.mem_append_left _ h))
theorem in_3 {w : Cond} (h : w ∈ tables_1_3) : w ∈ lw_tbl := List.mem_append_right _ (List.mem_append_right _ (List.mem_append_right _ (List.mem_append_left _ h)))
theorem in_4 {w : Cond} (h : w ∈ tables_1_4) : w ∈ lw_tbl := List.mem_append_right _ (List.mem_append_right _ (List.mem_append_right _ (List.mem_append_right _ (List.mem_append_left _ h))))
theorem in_5 {w : Cond} (h : w ∈ tables_1_5) : w ∈ lw_tbl := List.mem_append_right _ (List.mem_append_right _ (List.mem_append_right _ (List.mem_append_right _ (List.mem_append_right _ (List.mem_append_left _ h)))))
theorem in_6 {w : Cond} (h : w ∈ tables_1_6) : w ∈ lw_tbl := List.mem_append_right _ (List.mem_append_right _ (List.mem_append_right _ (List.mem_append_right _ (List.mem_append_right _ (List.mem_append_right _ (List.mem_append_left _ h))))))
theorem in_7 {w : Cond} (h : w ∈ tables_1_7) : w ∈ lw_tbl := List.mem_append_right _ (List.mem_append_right _ (List.mem_append_right _ (List.mem_append_right _ (List.mem_append_right _ (List.mem_append_right _ (List.mem_append_right _ (h)))))))
set_option maxRecDepth 10000 in
theorem lk_0 : (Jvm.Cond.initialized "LawfulLotsLaw") ∈ gt := List.mem_filter.mpr ⟨in_1 (List.mem_of_getElem? (i := 0) rfl), rfl⟩
set_option maxRecDepth 10000 in
theorem lk_1 : (Jvm.Cond.initialized "LawfulLots") ∈ gt := List.mem_filter.mpr ⟨in_1 (List.mem_of_getElem? (i := 1) rfl), rfl⟩
set_option maxRecDepth 10000 in
theorem lk_2 : (Jvm.Cond.initialized "LawfulLots$Reader") ∈ gt := List.mem_filter.mpr ⟨in_1 (List.mem_of_getElem? (i := 2) rfl), rfl⟩
set_option maxRecDepth 10000 in
theorem lk_3 : (Jvm.Cond.initialized "LawfulLots$Scanner") ∈ gt := List.mem_filter.mpr ⟨in_1 (List.mem_of_getElem? (i := 3) rfl), rfl⟩
set_option maxRecDepth 10000 in
theorem lk_4 : (Jvm.Cond.initialized "LawfulLots$Book") ∈ gt := List.mem_filter.mpr ⟨in_1 (List.mem_of_getElem? (i := 4) rfl), rfl⟩
set_option maxRecDepth 10000 in
theorem lk_5 : (Jvm.Cond.initialized "LawfulLots$Chart") ∈ gt := List.mem_filter.mpr ⟨in_1 (List.mem_of_getElem? (i := 5) rfl), rfl⟩
set_option maxRecDepth 10000 in
theorem lk_6 : (Jvm.Cond.initialized "LawfulLots$Machine") ∈ gt := List.mem_filter.mpr ⟨in_1 (List.mem_of_getElem? (i := 6) rfl), rfl⟩
set_option maxRecDepth 10000 in
theorem lk_7 : (Jvm.Cond.initialized "LawfulLots$Log") ∈ gt := List.mem_filter.mpr ⟨in_1 (List.mem_of_getElem? (i := 7) rfl), rfl⟩
set_option maxRecDepth 10000 in
theorem lk_8 : (Jvm.Cond.initialized "LawfulLots$BinTable") ∈ gt := List.mem_filter.mpr ⟨in_1 (List.mem_of_getElem? (i := 8) rfl), rfl⟩
set_option maxRecDepth 10000 in
theorem lk_9 : (Jvm.Cond.initialized "LawfulLots$Chains") ∈ gt := List.mem_filter.mpr ⟨in_1 (List.mem_of_getElem? (i := 9) rfl), rfl⟩
set_option maxRecDepth 10000 in
theorem lk_10 : (Jvm.Cond.initialized "LawfulLotsModel") ∈ gt := List.mem_filter.mpr ⟨in_1 (List.mem_of_getElem? (i := 10) rfl), rfl⟩
set_option maxRecDepth 10000 in
theorem lk_11 : (Jvm.Cond.initialized "java/util/Arrays") ∈ gt := List.mem_filter.mpr ⟨in_1 (List.mem_of_getElem? (i := 11) rfl), rfl⟩
set_option maxRecDepth 10000 in
theorem lk_12 : (Jvm.Cond.initialized "java/lang/Math") ∈ gt := List.mem_filter.mpr ⟨in_1 (List.mem_of_getElem? (i := 12) rfl), rfl⟩
set_option maxRecDepth 10000 in
theorem lk_13 : (Jvm.Cond.initialized "java/lang/Integer") ∈ gt := List.mem_filter.mpr ⟨in_1 (List.mem_of_getElem? (i := 13) rfl), rfl⟩
set_option maxRecDepth 10000 in
theorem lk_14 : (Jvm.Cond.classLink "LawfulLotsLaw" (7 : Nat) "LawfulLots") ∈ gt := List.mem_filter.mpr ⟨in_1 (List.mem_of_getElem? (i := 14) rfl), rfl⟩
set_option maxRecDepth 10000 in
theorem lk_15 : (Jvm.Cond.instantiable "LawfulLots" (8 : Nat)) ∈ gt := List.mem_filter.mpr ⟨in_1 (List.mem_of_getElem? (i := 15) rfl), rfl⟩
set_option maxRecDepth 10000 in
theorem lk_16 : (Jvm.Cond.methodLink "LawfulLotsLaw" (9 : Nat) ({ cls := "LawfulLots", name := "<init>", desc := "()V" } : Jvm.MethodName)) ∈ gt := List.mem_filter.mpr ⟨in_1 (List.mem_of_getElem? (i := 16) rfl), rfl⟩
set_option maxRecDepth 10000 in
theorem lk_17 : (Jvm.Cond.instanceMethod ({ cls := "LawfulLots", name := "<init>", desc := "()V" } : Jvm.MethodName)) ∈ gt := List.mem_filter.mpr ⟨in_1 (List.mem_of_getElem? (i := 17) rfl), rfl⟩
set_option maxRecDepth 10000 in
theorem lk_18 : (Jvm.Cond.code ({ cls := "LawfulLots", name := "<init>", desc := "()V" } : Jvm.MethodName) prog_1_method_1_code (1 : Nat) (Option.none : Option Jvm.ClassFile.FieldType)) ∈ gt := List.mem_filter.mpr ⟨in_1 (List.mem_of_getElem? (i := 18) rfl), rfl⟩
set_option maxRecDepth 10000 in
theorem lk_19 : (Jvm.Cond.methodLink "LawfulLots" (1 : Nat) ({ cls := "java/lang/Object", name := "<init>", desc := "()V" } : Jvm.MethodName)) ∈ gt := List.mem_filter.mpr ⟨in_1 (List.mem_of_getElem? (i := 19) rfl), rfl⟩
set_option maxRecDepth 10000 in
theorem lk_20 : (Jvm.Cond.instanceMethod ({ cls := "java/lang/Object", name := "<init>", desc := "()V" } : Jvm.MethodName)) ∈ gt := List.mem_filter.mpr ⟨in_1 (List.mem_of_getElem? (i := 20) rfl), rfl⟩
set_option maxRecDepth 10000 in
theorem lk_21 : (Jvm.Cond.code ({ cls := "java/lang/Object", name := "<init>", desc := "()V" } : Jvm.MethodName) object_method_1_code (1 : Nat) (Option.none : Option Jvm.ClassFile.FieldType)) ∈ gt := List.mem_filter.mpr ⟨in_1 (List.mem_of_getElem? (i := 21) rfl), rfl⟩
set_option maxRecDepth 10000 in
theorem lk_22 : (Jvm.Cond.classLink "LawfulLots" (13 : Nat) "LawfulLots$Reader") ∈ gt := List.mem_filter.mpr ⟨in_1 (List.mem_of_getElem? (i := 22) rfl), rfl⟩
set_option maxRecDepth 10000 in
theorem lk_23 : (Jvm.Cond.instantiable "LawfulLots$Reader" (17 : Nat)) ∈ gt := List.mem_filter.mpr ⟨in_1 (List.mem_of_getElem? (i := 23) rfl), rfl⟩
set_option maxRecDepth 10000 in
theorem lk_24 : (Jvm.Cond.methodLinkNest "LawfulLots" (15 : Nat) ({ cls := "LawfulLots$Reader", name := "<init>", desc := "()V" } : Jvm.MethodName) "LawfulLots") ∈ nw := List.mem_of_getElem? (i := 0) rfl
set_option maxRecDepth 10000 in
theorem lk_25 : (Jvm.Cond.instanceMethod ({ cls := "LawfulLots$Reader", name := "<init>", desc := "()V" } : Jvm.MethodName)) ∈ gt := List.mem_filter.mpr ⟨in_1 (List.mem_of_getElem? (i := 25) rfl), rfl⟩
set_option maxRecDepth 10000 in
theorem lk_26 : (Jvm.Cond.code ({ cls := "LawfulLots$Reader", name := "<init>", desc := "()V" } : Jvm.MethodName) prog_8_method_1_code (1 : Nat) (Option.none : Option Jvm.ClassFile.FieldType)) ∈ gt := List.mem_filter.mpr ⟨in_1 (List.mem_of_getElem? (i := 26) rfl), rfl⟩
set_option maxRecDepth 10000 in
theorem lk_27 : (Jvm.Cond.methodLink "LawfulLots$Reader" (3 : Nat) ({ cls := "java/lang/Object", name := "<init>", desc := "()V" } : Jvm.MethodName)) ∈ gt := List.mem_filter.mpr ⟨in_1 (List.mem_of_getElem? (i := 27) rfl), rfl⟩
set_option maxRecDepth 10000 in
theorem lk_28 : (Jvm.Cond.classLink "LawfulLots$Reader" (9 : Nat) "LawfulLots$Scanner") ∈ gt := List.mem_filter.mpr ⟨in_1 (List.mem_of_getElem? (i := 28) rfl), rfl⟩
set_option maxRecDepth 10000 in
theorem lk_29 : (Jvm.Cond.instantiable "LawfulLots$Scanner" (7 : Nat)) ∈ gt := List.mem_filter.mpr ⟨in_1 (List.mem_of_getElem? (i := 29) rfl), rfl⟩
set_option maxRecDepth 10000 in
theorem lk_30 : (Jvm.Cond.methodLinkNest "LawfulLots$Reader" (11 : Nat) ({ cls := "LawfulLots$Scanner", name := "<init>", desc := "()V" } : Jvm.MethodName) "LawfulLots") ∈ nw := List.mem_of_getElem? (i := 1) rfl
set_option maxRecDepth 10000 in
theorem lk_31 : (Jvm.Cond.instanceMethod ({ cls := "LawfulLots$Scanner", name := "<init>", desc := "()V" } : Jvm.MethodName)) ∈ gt := List.mem_filter.mpr ⟨in_1 (List.mem_of_getElem? (i := 31) rfl), rfl⟩
set_option maxRecDepth 10000 in
theorem lk_32 : (Jvm.Cond.code ({ cls := "LawfulLots$Scanner", name := "<init>", desc := "()V" } : Jvm.MethodName) prog_9_method_1_code (1 : Nat) (Option.none : Option Jvm.ClassFile.FieldType)) ∈ gt := List.mem_filter.mpr ⟨in_1 (List.mem_of_getElem? (i := 32) rfl), rfl⟩
set_option maxRecDepth 10000 in
theorem lk_33 : (Jvm.Cond.methodLink "LawfulLots$Scanner" (3 : Nat) ({ cls := "java/lang/Object", name := "<init>", desc := "()V" } : Jvm.MethodName)) ∈ gt := List.mem_filter.mpr ⟨in_1 (List.mem_of_getElem? (i := 33) rfl), rfl⟩
set_option maxRecDepth 10000 in
theorem lk_34 : (Jvm.Cond.fieldLink "LawfulLots$Scanner" (9 : Nat) "LawfulLots$Scanner" "text" "[B") ∈ gt := List.mem_filter.mpr ⟨in_1 (List.mem_of_getElem? (i := 34) rfl), rfl⟩
set_option maxRecDepth 10000 in
theorem lk_35 : (Jvm.Cond.fieldLink "LawfulLots$Scanner" (15 : Nat) "LawfulLots$Scanner" "length" "I") ∈ gt := List.mem_filter.mpr ⟨in_1 (List.mem_of_getElem? (i := 35) rfl), rfl⟩
set_option maxRecDepth 10000 in
theorem lk_36 : (Jvm.Cond.fieldLink "LawfulLots$Scanner" (19 : Nat) "LawfulLots$Scanner" "at" "I") ∈ gt := List.mem_filter.mpr ⟨in_1 (List.mem_of_getElem? (i := 36) rfl), rfl⟩
set_option maxRecDepth 10000 in
theorem lk_37 : (Jvm.Cond.fieldLink "LawfulLots$Scanner" (22 : Nat) "LawfulLots$Scanner" "kind" "I") ∈ gt := List.mem_filter.mpr ⟨in_1 (List.mem_of_getElem? (i := 37) rfl), rfl⟩
set_option maxRecDepth 10000 in
theorem lk_38 : (Jvm.Cond.fieldLink "LawfulLots$Reader" (81 : Nat) "LawfulLots$Scanner" "kind" "I") ∈ gt := List.mem_filter.mpr ⟨in_1 (List.mem_of_getElem? (i := 38) rfl), rfl⟩
set_option maxRecDepth 10000 in
theorem lk_39 : (Jvm.Cond.fieldLink "LawfulLots$Scanner" (25 : Nat) "LawfulLots$Scanner" "start" "I") ∈ gt := List.mem_filter.mpr ⟨in_1 (List.mem_of_getElem? (i := 39) rfl), rfl⟩
set_option maxRecDepth 10000 in
theorem lk_40 : (Jvm.Cond.fieldLink "LawfulLots$Reader" (98 : Nat) "LawfulLots$Scanner" "start" "I") ∈ gt := List.mem_filter.mpr ⟨in_1 (List.mem_of_getElem? (i := 40) rfl), rfl⟩
set_option maxRecDepth 10000 in
theorem lk_41 : (Jvm.Cond.fieldLink "LawfulLots$Scanner" (28 : Nat) "LawfulLots$Scanner" "number" "I") ∈ gt := List.mem_filter.mpr ⟨in_1 (List.mem_of_getElem? (i := 41) rfl), rfl⟩
set_option maxRecDepth 10000 in
theorem lk_42 : (Jvm.Cond.fieldLink "LawfulLots$Reader" (107 : Nat) "LawfulLots$Scanner" "number" "I") ∈ gt := List.mem_filter.mpr ⟨in_1 (List.mem_of_getElem? (i := 42) rfl), rfl⟩
set_option maxRecDepth 10000 in
theorem lk_43 : (Jvm.Cond.fieldLink "LawfulLots$Scanner" (31 : Nat) "LawfulLots$Scanner" "name" "J") ∈ gt := List.mem_filter.mpr ⟨in_1 (List.mem_of_getElem? (i := 43) rfl), rfl⟩
set_option maxRecDepth 10000 in
theorem lk_44 : (Jvm.Cond.fieldLink "LawfulLots$Reader" (104 : Nat) "LawfulLots$Scanner" "name" "J") ∈ gt := List.mem_filter.mpr ⟨in_1 (List.mem_of_getElem? (i := 44) rfl), rfl⟩
set_option maxRecDepth 10000 in
theorem lk_60 : (Jvm.Cond.arrayClass Jvm.ClassFile.FieldType.byte) ∈ gt := List.mem_filter.mpr ⟨in_1 (List.mem_of_getElem? (i := 60) rfl), rfl⟩
set_option maxRecDepth 10000 in
theorem lk_61 : (Jvm.Cond.classLink "LawfulLots$Reader" (22 : Nat) "LawfulLots$Book") ∈ gt := List.mem_filter.mpr ⟨in_1 (List.mem_of_getElem? (i := 61) rfl), rfl⟩
set_option maxRecDepth 10000 in
theorem lk_62 : (Jvm.Cond.instantiable "LawfulLots$Book" (13 : Nat)) ∈ gt := List.mem_filter.mpr ⟨in_1 (List.mem_of_getElem? (i := 62) rfl), rfl⟩
set_option maxRecDepth 10000 in
theorem lk_63 : (Jvm.Cond.methodLinkNest "LawfulLots$Reader" (24 : Nat) ({ cls := "LawfulLots$Book", name := "<init>", desc := "()V" } : Jvm.MethodName) "LawfulLots") ∈ nw := List.mem_of_getElem? (i := 2) rfl
set_option maxRecDepth 10000 in
theorem lk_64 : (Jvm.Cond.instanceMethod ({ cls := "LawfulLots$Book", name := "<init>", desc := "()V" } : Jvm.MethodName)) ∈ gt := List.mem_filter.mpr ⟨in_1 (List.mem_of_getElem? (i := 64) rfl), rfl⟩
set_option maxRecDepth 10000 in
theorem lk_65 : (Jvm.Cond.code ({ cls := "LawfulLots$Book", name := "<init>", desc := "()V" } : Jvm.MethodName) prog_3_method_1_code (1 : Nat) (Option.none : Option Jvm.ClassFile.FieldType)) ∈ gt := List.mem_filter.mpr ⟨in_1 (List.mem_of_getElem? (i := 65) rfl), rfl⟩
set_option maxRecDepth 10000 in
theorem lk_66 : (Jvm.Cond.methodLink "LawfulLots$Book" (3 : Nat) ({ cls := "java/lang/Object", name := "<init>", desc := "()V" } : Jvm.MethodName)) ∈ gt := List.mem_filter.mpr ⟨in_1 (List.mem_of_getElem? (i := 66) rfl), rfl⟩
set_option maxRecDepth 10000 in
theorem lk_67 : (Jvm.Cond.fieldLink "LawfulLots$Book" (9 : Nat) "LawfulLots$Book" "names" "[J") ∈ gt := List.mem_filter.mpr ⟨in_1 (List.mem_of_getElem? (i := 67) rfl), rfl⟩
set_option maxRecDepth 10000 in
theorem lk_68 : (Jvm.Cond.fieldLink "LawfulLots$Book" (15 : Nat) "LawfulLots$Book" "from" "[I") ∈ gt := List.mem_filter.mpr ⟨in_1 (List.mem_of_getElem? (i := 68) rfl), rfl⟩
set_option maxRecDepth 10000 in
theorem lk_69 : (Jvm.Cond.fieldLink "LawfulLots$Book" (19 : Nat) "LawfulLots$Book" "to" "[I") ∈ gt := List.mem_filter.mpr ⟨in_1 (List.mem_of_getElem? (i := 69) rfl), rfl⟩
set_option maxRecDepth 10000 in
theorem lk_70 : (Jvm.Cond.fieldLink "LawfulLots$Book" (22 : Nat) "LawfulLots$Book" "stride" "[I") ∈ gt := List.mem_filter.mpr ⟨in_1 (List.mem_of_getElem? (i := 70) rfl), rfl⟩
set_option maxRecDepth 10000 in
theorem lk_71 : (Jvm.Cond.fieldLink "LawfulLots$Book" (25 : Nat) "LawfulLots$Book" "told" "[I") ∈ gt := List.mem_filter.mpr ⟨in_1 (List.mem_of_getElem? (i := 71) rfl), rfl⟩
set_option maxRecDepth 10000 in
theorem lk_72 : (Jvm.Cond.fieldLink "LawfulLots$Book" (28 : Nat) "LawfulLots$Book" "weight" "[I") ∈ gt := List.mem_filter.mpr ⟨in_1 (List.mem_of_getElem? (i := 72) rfl), rfl⟩
set_option maxRecDepth 10000 in
theorem lk_73 : (Jvm.Cond.fieldLink "LawfulLots$Chart" (143 : Nat) "LawfulLots$Book" "weight" "[I") ∈ gt := List.mem_filter.mpr ⟨in_1 (List.mem_of_getElem? (i := 73) rfl), rfl⟩
set_option maxRecDepth 10000 in
theorem lk_74 : (Jvm.Cond.fieldLink "LawfulLots$Book" (31 : Nat) "LawfulLots$Book" "code" "[I") ∈ gt := List.mem_filter.mpr ⟨in_1 (List.mem_of_getElem? (i := 74) rfl), rfl⟩
set_option maxRecDepth 10000 in
theorem lk_75 : (Jvm.Cond.fieldLink "LawfulLots$Machine" (15 : Nat) "LawfulLots$Book" "code" "[I") ∈ gt := List.mem_filter.mpr ⟨in_1 (List.mem_of_getElem? (i := 75) rfl), rfl⟩
set_option maxRecDepth 10000 in
theorem lk_76 : (Jvm.Cond.fieldLink "LawfulLots$Book" (34 : Nat) "LawfulLots$Book" "begin" "[I") ∈ gt := List.mem_filter.mpr ⟨in_1 (List.mem_of_getElem? (i := 76) rfl), rfl⟩
set_option maxRecDepth 10000 in
theorem lk_77 : (Jvm.Cond.fieldLink "LawfulLots$Machine" (23 : Nat) "LawfulLots$Book" "begin" "[I") ∈ gt := List.mem_filter.mpr ⟨in_1 (List.mem_of_getElem? (i := 77) rfl), rfl⟩
set_option maxRecDepth 10000 in
theorem lk_78 : (Jvm.Cond.fieldLink "LawfulLots$Book" (37 : Nat) "LawfulLots$Book" "end" "[I") ∈ gt := List.mem_filter.mpr ⟨in_1 (List.mem_of_getElem? (i := 78) rfl), rfl⟩
set_option maxRecDepth 10000 in
theorem lk_79 : (Jvm.Cond.fieldLink "LawfulLots$Machine" (20 : Nat) "LawfulLots$Book" "end" "[I") ∈ gt := List.mem_filter.mpr ⟨in_1 (List.mem_of_getElem? (i := 79) rfl), rfl⟩
set_option maxRecDepth 10000 in
theorem lk_80 : (Jvm.Cond.fieldLink "LawfulLots$Book" (40 : Nat) "LawfulLots$Book" "reach" "[I") ∈ gt := List.mem_filter.mpr ⟨in_1 (List.mem_of_getElem? (i := 80) rfl), rfl⟩
set_option maxRecDepth 10000 in
theorem lk_81 : (Jvm.Cond.fieldLink "LawfulLots$Chart" (118 : Nat) "LawfulLots$Book" "reach" "[I") ∈ gt := List.mem_filter.mpr ⟨in_1 (List.mem_of_getElem? (i := 81) rfl), rfl⟩
set_option maxRecDepth 10000 in
theorem lk_82 : (Jvm.Cond.fieldLink "LawfulLots$Book" (43 : Nat) "LawfulLots$Book" "fields" "I") ∈ gt := List.mem_filter.mpr ⟨in_1 (List.mem_of_getElem? (i := 82) rfl), rfl⟩
set_option maxRecDepth 10000 in
theorem lk_83 : (Jvm.Cond.fieldLink "LawfulLots$Reader" (129 : Nat) "LawfulLots$Book" "fields" "I") ∈ gt := List.mem_filter.mpr ⟨in_1 (List.mem_of_getElem? (i := 83) rfl), rfl⟩
set_option maxRecDepth 10000 in
theorem lk_84 : (Jvm.Cond.fieldLink "LawfulLots" (200 : Nat) "LawfulLots$Book" "fields" "I") ∈ gt := List.mem_filter.mpr ⟨in_1 (List.mem_of_getElem? (i := 84) rfl), rfl⟩
set_option maxRecDepth 10000 in
theorem lk_85 : (Jvm.Cond.fieldLink "LawfulLots$Book" (47 : Nat) "LawfulLots$Book" "inputs" "I") ∈ gt := List.mem_filter.mpr ⟨in_1 (List.mem_of_getElem? (i := 85) rfl), rfl⟩
set_option maxRecDepth 10000 in
theorem lk_86 : (Jvm.Cond.fieldLink "LawfulLots$Chart" (92 : Nat) "LawfulLots$Book" "inputs" "I") ∈ gt := List.mem_filter.mpr ⟨in_1 (List.mem_of_getElem? (i := 86) rfl), rfl⟩
set_option maxRecDepth 10000 in
theorem lk_87 : (Jvm.Cond.fieldLink "LawfulLots$Reader" (157 : Nat) "LawfulLots$Book" "inputs" "I") ∈ gt := List.mem_filter.mpr ⟨in_1 (List.mem_of_getElem? (i := 87) rfl), rfl⟩
set_option maxRecDepth 10000 in
theorem lk_88 : (Jvm.Cond.fieldLink "LawfulLots" (206 : Nat) "LawfulLots$Book" "inputs" "I") ∈ gt := List.mem_filter.mpr ⟨in_1 (List.mem_of_getElem? (i := 88) rfl), rfl⟩
set_option maxRecDepth 10000 in
theorem lk_89 : (Jvm.Cond.fieldLink "LawfulLots$Book" (50 : Nat) "LawfulLots$Book" "codeSize" "I") ∈ gt := List.mem_filter.mpr ⟨in_1 (List.mem_of_getElem? (i := 89) rfl), rfl⟩
set_option maxRecDepth 10000 in
theorem lk_117 : (Jvm.Cond.arrayClass Jvm.ClassFile.FieldType.int) ∈ gt := List.mem_filter.mpr ⟨in_1 (List.mem_of_getElem? (i := 117) rfl), rfl⟩
set_option maxRecDepth 10000 in
theorem lk_118 : (Jvm.Cond.arrayClass Jvm.ClassFile.FieldType.long) ∈ gt := List.mem_filter.mpr ⟨in_1 (List.mem_of_getElem? (i := 118) rfl), rfl⟩
set_option maxRecDepth 10000 in
theorem lk_119 : (Jvm.Cond.fieldLink "LawfulLots$Reader" (12 : Nat) "LawfulLots$Reader" "scanner" "LLawfulLots$Scanner;") ∈ gt := List.mem_filter.mpr ⟨in_1 (List.mem_of_getElem? (i := 119) rfl), rfl⟩
set_option maxRecDepth 10000 in
theorem lk_120 : (Jvm.Cond.fieldLink "LawfulLots$Reader" (18 : Nat) "LawfulLots$Reader" "waiting" "[I") ∈ gt := List.mem_filter.mpr ⟨in_1 (List.mem_of_getElem? (i := 120) rfl), rfl⟩
set_option maxRecDepth 10000 in
theorem lk_121 : (Jvm.Cond.fieldLink "LawfulLots$Reader" (25 : Nat) "LawfulLots$Reader" "draft" "LLawfulLots$Book;") ∈ gt := List.mem_filter.mpr ⟨in_1 (List.mem_of_getElem? (i := 121) rfl), rfl⟩
set_option maxRecDepth 10000 in
theorem lk_122 : (Jvm.Cond.fieldLink "LawfulLots" (64 : Nat) "LawfulLots$Reader" "draft" "LLawfulLots$Book;") ∈ gt := List.mem_filter.mpr ⟨in_1 (List.mem_of_getElem? (i := 122) rfl), rfl⟩
set_option maxRecDepth 10000 in
theorem lk_123 : (Jvm.Cond.fieldLink "LawfulLots$Reader" (29 : Nat) "LawfulLots$Reader" "faultPlace" "I") ∈ gt := List.mem_filter.mpr ⟨in_1 (List.mem_of_getElem? (i := 123) rfl), rfl⟩
set_option maxRecDepth 10000 in
theorem lk_124 : (Jvm.Cond.fieldLink "LawfulLots" (63 : Nat) "LawfulLots$Reader" "faultPlace" "I") ∈ gt := List.mem_filter.mpr ⟨in_1 (List.mem_of_getElem? (i := 124) rfl), rfl⟩
set_option maxRecDepth 10000 in
theorem lk_125 : (Jvm.Cond.fieldLink "LawfulLots$Reader" (33 : Nat) "LawfulLots$Reader" "fault" "I") ∈ gt := List.mem_filter.mpr ⟨in_1 (List.mem_of_getElem? (i := 125) rfl), rfl⟩
set_option maxRecDepth 10000 in
theorem lk_126 : (Jvm.Cond.fieldLink "LawfulLots$Reader" (36 : Nat) "LawfulLots$Reader" "meaningFault" "I") ∈ gt := List.mem_filter.mpr ⟨in_1 (List.mem_of_getElem? (i := 126) rfl), rfl⟩
set_option maxRecDepth 10000 in
theorem lk_127 : (Jvm.Cond.fieldLink "LawfulLots$Reader" (39 : Nat) "LawfulLots$Reader" "meaningPlace" "I") ∈ gt := List.mem_filter.mpr ⟨in_1 (List.mem_of_getElem? (i := 127) rfl), rfl⟩
set_option maxRecDepth 10000 in
theorem lk_128 : (Jvm.Cond.fieldLink "LawfulLots$Reader" (42 : Nat) "LawfulLots$Reader" "state" "I") ∈ gt := List.mem_filter.mpr ⟨in_1 (List.mem_of_getElem? (i := 128) rfl), rfl⟩
set_option maxRecDepth 10000 in
theorem lk_129 : (Jvm.Cond.fieldLink "LawfulLots$Reader" (45 : Nat) "LawfulLots$Reader" "side" "I") ∈ gt := List.mem_filter.mpr ⟨in_1 (List.mem_of_getElem? (i := 129) rfl), rfl⟩
set_option maxRecDepth 10000 in
theorem lk_130 : (Jvm.Cond.fieldLink "LawfulLots$Reader" (48 : Nat) "LawfulLots$Reader" "sort" "I") ∈ gt := List.mem_filter.mpr ⟨in_1 (List.mem_of_getElem? (i := 130) rfl), rfl⟩
set_option maxRecDepth 10000 in
theorem lk_131 : (Jvm.Cond.fieldLink "LawfulLots$Reader" (51 : Nat) "LawfulLots$Reader" "slot" "I") ∈ gt := List.mem_filter.mpr ⟨in_1 (List.mem_of_getElem? (i := 131) rfl), rfl⟩
set_option maxRecDepth 10000 in
theorem lk_132 : (Jvm.Cond.fieldLink "LawfulLots$Reader" (54 : Nat) "LawfulLots$Reader" "waits" "I") ∈ gt := List.mem_filter.mpr ⟨in_1 (List.mem_of_getElem? (i := 132) rfl), rfl⟩
set_option maxRecDepth 10000 in
theorem lk_133 : (Jvm.Cond.fieldLink "LawfulLots$Reader" (57 : Nat) "LawfulLots$Reader" "nested" "I") ∈ gt := List.mem_filter.mpr ⟨in_1 (List.mem_of_getElem? (i := 133) rfl), rfl⟩
set_option maxRecDepth 10000 in
theorem lk_134 : (Jvm.Cond.fieldLink "LawfulLots$Reader" (60 : Nat) "LawfulLots$Reader" "crowded" "Z") ∈ gt := List.mem_filter.mpr ⟨in_1 (List.mem_of_getElem? (i := 134) rfl), rfl⟩
set_option maxRecDepth 10000 in
theorem lk_135 : (Jvm.Cond.fieldLink "LawfulLots$Reader" (64 : Nat) "LawfulLots$Reader" "fieldName" "J") ∈ gt := List.mem_filter.mpr ⟨in_1 (List.mem_of_getElem? (i := 135) rfl), rfl⟩
set_option maxRecDepth 10000 in
theorem lk_136 : (Jvm.Cond.fieldLink "LawfulLots$Reader" (68 : Nat) "LawfulLots$Reader" "fieldPlace" "I") ∈ gt := List.mem_filter.mpr ⟨in_1 (List.mem_of_getElem? (i := 136) rfl), rfl⟩
set_option maxRecDepth 10000 in
theorem lk_137 : (Jvm.Cond.fieldLink "LawfulLots$Reader" (71 : Nat) "LawfulLots$Reader" "least" "I") ∈ gt := List.mem_filter.mpr ⟨in_1 (List.mem_of_getElem? (i := 137) rfl), rfl⟩
set_option maxRecDepth 10000 in
theorem lk_173 : (Jvm.Cond.classLink "LawfulLots" (20 : Nat) "LawfulLots$Chart") ∈ gt := List.mem_filter.mpr ⟨in_1 (List.mem_of_getElem? (i := 173) rfl), rfl⟩
set_option maxRecDepth 10000 in
theorem lk_174 : (Jvm.Cond.instantiable "LawfulLots$Chart" (18 : Nat)) ∈ gt := List.mem_filter.mpr ⟨in_1 (List.mem_of_getElem? (i := 174) rfl), rfl⟩
set_option maxRecDepth 10000 in
theorem lk_175 : (Jvm.Cond.methodLinkNest "LawfulLots" (22 : Nat) ({ cls := "LawfulLots$Chart", name := "<init>", desc := "()V" } : Jvm.MethodName) "LawfulLots") ∈ nw := List.mem_of_getElem? (i := 3) rfl
set_option maxRecDepth 10000 in
theorem lk_176 : (Jvm.Cond.instanceMethod ({ cls := "LawfulLots$Chart", name := "<init>", desc := "()V" } : Jvm.MethodName)) ∈ gt := List.mem_filter.mpr ⟨in_1 (List.mem_of_getElem? (i := 176) rfl), rfl⟩
set_option maxRecDepth 10000 in
theorem lk_177 : (Jvm.Cond.code ({ cls := "LawfulLots$Chart", name := "<init>", desc := "()V" } : Jvm.MethodName) prog_5_method_1_code (1 : Nat) (Option.none : Option Jvm.ClassFile.FieldType)) ∈ gt := List.mem_filter.mpr ⟨in_1 (List.mem_of_getElem? (i := 177) rfl), rfl⟩
set_option maxRecDepth 10000 in
theorem lk_178 : (Jvm.Cond.methodLink "LawfulLots$Chart" (3 : Nat) ({ cls := "java/lang/Object", name := "<init>", desc := "()V" } : Jvm.MethodName)) ∈ gt := List.mem_filter.mpr ⟨in_1 (List.mem_of_getElem? (i := 178) rfl), rfl⟩
set_option maxRecDepth 10000 in
theorem lk_179 : (Jvm.Cond.classLink "LawfulLots$Chart" (9 : Nat) "LawfulLots$Machine") ∈ gt := List.mem_filter.mpr ⟨in_1 (List.mem_of_getElem? (i := 179) rfl), rfl⟩
set_option maxRecDepth 10000 in
theorem lk_180 : (Jvm.Cond.instantiable "LawfulLots$Machine" (1 : Nat)) ∈ gt := List.mem_filter.mpr ⟨in_1 (List.mem_of_getElem? (i := 180) rfl), rfl⟩
set_option maxRecDepth 10000 in
theorem lk_181 : (Jvm.Cond.methodLinkNest "LawfulLots$Chart" (11 : Nat) ({ cls := "LawfulLots$Machine", name := "<init>", desc := "()V" } : Jvm.MethodName) "LawfulLots") ∈ nw := List.mem_of_getElem? (i := 4) rfl
set_option maxRecDepth 10000 in
theorem lk_182 : (Jvm.Cond.instanceMethod ({ cls := "LawfulLots$Machine", name := "<init>", desc := "()V" } : Jvm.MethodName)) ∈ gt := List.mem_filter.mpr ⟨in_1 (List.mem_of_getElem? (i := 182) rfl), rfl⟩
set_option maxRecDepth 10000 in
theorem lk_183 : (Jvm.Cond.code ({ cls := "LawfulLots$Machine", name := "<init>", desc := "()V" } : Jvm.MethodName) prog_7_method_1_code (1 : Nat) (Option.none : Option Jvm.ClassFile.FieldType)) ∈ gt := List.mem_filter.mpr ⟨in_1 (List.mem_of_getElem? (i := 183) rfl), rfl⟩
set_option maxRecDepth 10000 in
theorem lk_184 : (Jvm.Cond.methodLink "LawfulLots$Machine" (3 : Nat) ({ cls := "java/lang/Object", name := "<init>", desc := "()V" } : Jvm.MethodName)) ∈ gt := List.mem_filter.mpr ⟨in_1 (List.mem_of_getElem? (i := 184) rfl), rfl⟩
set_option maxRecDepth 10000 in
theorem lk_185 : (Jvm.Cond.fieldLink "LawfulLots$Machine" (9 : Nat) "LawfulLots$Machine" "stack" "[I") ∈ gt := List.mem_filter.mpr ⟨in_1 (List.mem_of_getElem? (i := 185) rfl), rfl⟩
set_option maxRecDepth 10000 in
theorem lk_189 : (Jvm.Cond.classLink "LawfulLots$Chart" (40 : Nat) "LawfulLots$Book") ∈ gt := List.mem_filter.mpr ⟨in_1 (List.mem_of_getElem? (i := 189) rfl), rfl⟩
set_option maxRecDepth 10000 in
theorem lk_190 : (Jvm.Cond.methodLinkNest "LawfulLots$Chart" (42 : Nat) ({ cls := "LawfulLots$Book", name := "<init>", desc := "()V" } : Jvm.MethodName) "LawfulLots") ∈ nw := List.mem_of_getElem? (i := 5) rfl
set_option maxRecDepth 10000 in
theorem lk_191 : (Jvm.Cond.fieldLink "LawfulLots$Chart" (12 : Nat) "LawfulLots$Chart" "machine" "LLawfulLots$Machine;") ∈ gt := List.mem_filter.mpr ⟨in_1 (List.mem_of_getElem? (i := 191) rfl), rfl⟩
set_option maxRecDepth 10000 in
theorem lk_192 : (Jvm.Cond.fieldLink "LawfulLots$Chart" (18 : Nat) "LawfulLots$Chart" "values" "[I") ∈ gt := List.mem_filter.mpr ⟨in_1 (List.mem_of_getElem? (i := 192) rfl), rfl⟩
set_option maxRecDepth 10000 in
theorem lk_193 : (Jvm.Cond.fieldLink "LawfulLots$Chart" (22 : Nat) "LawfulLots$Chart" "standing" "[I") ∈ gt := List.mem_filter.mpr ⟨in_1 (List.mem_of_getElem? (i := 193) rfl), rfl⟩
set_option maxRecDepth 10000 in
theorem lk_194 : (Jvm.Cond.fieldLink "LawfulLots$Chart" (25 : Nat) "LawfulLots$Chart" "softSeen" "[I") ∈ gt := List.mem_filter.mpr ⟨in_1 (List.mem_of_getElem? (i := 194) rfl), rfl⟩
set_option maxRecDepth 10000 in
theorem lk_195 : (Jvm.Cond.fieldLink "LawfulLots$Chart" (28 : Nat) "LawfulLots$Chart" "blockEnds" "[I") ∈ gt := List.mem_filter.mpr ⟨in_1 (List.mem_of_getElem? (i := 195) rfl), rfl⟩
set_option maxRecDepth 10000 in
theorem lk_196 : (Jvm.Cond.fieldLink "LawfulLots$Chart" (31 : Nat) "LawfulLots$Chart" "marks" "[I") ∈ gt := List.mem_filter.mpr ⟨in_1 (List.mem_of_getElem? (i := 196) rfl), rfl⟩
set_option maxRecDepth 10000 in
theorem lk_197 : (Jvm.Cond.fieldLink "LawfulLots$Chart" (34 : Nat) "LawfulLots$Chart" "shares" "[I") ∈ gt := List.mem_filter.mpr ⟨in_1 (List.mem_of_getElem? (i := 197) rfl), rfl⟩
set_option maxRecDepth 10000 in
theorem lk_198 : (Jvm.Cond.fieldLink "LawfulLots$Chart" (37 : Nat) "LawfulLots$Chart" "order" "[I") ∈ gt := List.mem_filter.mpr ⟨in_1 (List.mem_of_getElem? (i := 198) rfl), rfl⟩
set_option maxRecDepth 10000 in
theorem lk_199 : (Jvm.Cond.fieldLink "LawfulLots$Chart" (43 : Nat) "LawfulLots$Chart" "book" "LLawfulLots$Book;") ∈ gt := List.mem_filter.mpr ⟨in_1 (List.mem_of_getElem? (i := 199) rfl), rfl⟩
set_option maxRecDepth 10000 in
theorem lk_200 : (Jvm.Cond.fieldLink "LawfulLots$Chains" (49 : Nat) "LawfulLots$Chart" "book" "LLawfulLots$Book;") ∈ gt := List.mem_filter.mpr ⟨in_1 (List.mem_of_getElem? (i := 200) rfl), rfl⟩
set_option maxRecDepth 10000 in
theorem lk_201 : (Jvm.Cond.fieldLink "LawfulLots$BinTable" (65 : Nat) "LawfulLots$Chart" "book" "LLawfulLots$Book;") ∈ gt := List.mem_filter.mpr ⟨in_1 (List.mem_of_getElem? (i := 201) rfl), rfl⟩
set_option maxRecDepth 10000 in
theorem lk_202 : (Jvm.Cond.fieldLink "LawfulLots" (85 : Nat) "LawfulLots$Chart" "book" "LLawfulLots$Book;") ∈ gt := List.mem_filter.mpr ⟨in_1 (List.mem_of_getElem? (i := 202) rfl), rfl⟩
set_option maxRecDepth 10000 in
theorem lk_203 : (Jvm.Cond.fieldLink "LawfulLots$Chart" (47 : Nat) "LawfulLots$Chart" "size" "I") ∈ gt := List.mem_filter.mpr ⟨in_1 (List.mem_of_getElem? (i := 203) rfl), rfl⟩
set_option maxRecDepth 10000 in
theorem lk_204 : (Jvm.Cond.fieldLink "LawfulLots$Chains" (40 : Nat) "LawfulLots$Chart" "size" "I") ∈ gt := List.mem_filter.mpr ⟨in_1 (List.mem_of_getElem? (i := 204) rfl), rfl⟩
set_option maxRecDepth 10000 in
theorem lk_205 : (Jvm.Cond.fieldLink "LawfulLots$BinTable" (53 : Nat) "LawfulLots$Chart" "size" "I") ∈ gt := List.mem_filter.mpr ⟨in_1 (List.mem_of_getElem? (i := 205) rfl), rfl⟩
set_option maxRecDepth 10000 in
theorem lk_206 : (Jvm.Cond.fieldLink "LawfulLots" (104 : Nat) "LawfulLots$Chart" "size" "I") ∈ gt := List.mem_filter.mpr ⟨in_1 (List.mem_of_getElem? (i := 206) rfl), rfl⟩
set_option maxRecDepth 10000 in
theorem lk_207 : (Jvm.Cond.fieldLink "LawfulLots$Chart" (51 : Nat) "LawfulLots$Chart" "kept" "I") ∈ gt := List.mem_filter.mpr ⟨in_1 (List.mem_of_getElem? (i := 207) rfl), rfl⟩
set_option maxRecDepth 10000 in
theorem lk_208 : (Jvm.Cond.fieldLink "LawfulLots" (105 : Nat) "LawfulLots$Chart" "kept" "I") ∈ gt := List.mem_filter.mpr ⟨in_1 (List.mem_of_getElem? (i := 208) rfl), rfl⟩
set_option maxRecDepth 10000 in
theorem lk_209 : (Jvm.Cond.fieldLink "LawfulLots$Chart" (54 : Nat) "LawfulLots$Chart" "total" "I") ∈ gt := List.mem_filter.mpr ⟨in_1 (List.mem_of_getElem? (i := 209) rfl), rfl⟩
set_option maxRecDepth 10000 in
theorem lk_210 : (Jvm.Cond.fieldLink "LawfulLots" (122 : Nat) "LawfulLots$Chart" "total" "I") ∈ gt := List.mem_filter.mpr ⟨in_1 (List.mem_of_getElem? (i := 210) rfl), rfl⟩
set_option maxRecDepth 10000 in
theorem lk_211 : (Jvm.Cond.fieldLink "LawfulLots$Chart" (57 : Nat) "LawfulLots$Chart" "on" "I") ∈ gt := List.mem_filter.mpr ⟨in_1 (List.mem_of_getElem? (i := 211) rfl), rfl⟩
set_option maxRecDepth 10000 in
theorem lk_212 : (Jvm.Cond.fieldLink "LawfulLots$Chart" (60 : Nat) "LawfulLots$Chart" "lawsMarked" "Z") ∈ gt := List.mem_filter.mpr ⟨in_1 (List.mem_of_getElem? (i := 212) rfl), rfl⟩
set_option maxRecDepth 10000 in
theorem lk_213 : (Jvm.Cond.fieldLink "LawfulLots$Chart" (64 : Nat) "LawfulLots$Chart" "binsMarked" "Z") ∈ gt := List.mem_filter.mpr ⟨in_1 (List.mem_of_getElem? (i := 213) rfl), rfl⟩
set_option maxRecDepth 10000 in
theorem lk_214 : (Jvm.Cond.fieldLink "LawfulLots$Chart" (67 : Nat) "LawfulLots$Chart" "sharesTold" "Z") ∈ gt := List.mem_filter.mpr ⟨in_1 (List.mem_of_getElem? (i := 214) rfl), rfl⟩
set_option maxRecDepth 10000 in
theorem lk_215 : (Jvm.Cond.fieldLink "LawfulLots$Chart" (70 : Nat) "LawfulLots$Chart" "fresh" "Z") ∈ gt := List.mem_filter.mpr ⟨in_1 (List.mem_of_getElem? (i := 215) rfl), rfl⟩
set_option maxRecDepth 10000 in
theorem lk_216 : (Jvm.Cond.fieldLink "LawfulLots$Chart" (73 : Nat) "LawfulLots$Chart" "summed" "Z") ∈ gt := List.mem_filter.mpr ⟨in_1 (List.mem_of_getElem? (i := 216) rfl), rfl⟩
set_option maxRecDepth 10000 in
theorem lk_254 : (Jvm.Cond.classLink "LawfulLots" (27 : Nat) "LawfulLots$Log") ∈ gt := List.mem_filter.mpr ⟨in_2 (List.mem_of_getElem? (i := 14) rfl), rfl⟩
set_option maxRecDepth 10000 in
theorem lk_255 : (Jvm.Cond.instantiable "LawfulLots$Log" (2 : Nat)) ∈ gt := List.mem_filter.mpr ⟨in_2 (List.mem_of_getElem? (i := 15) rfl), rfl⟩
set_option maxRecDepth 10000 in
theorem lk_256 : (Jvm.Cond.methodLinkNest "LawfulLots" (29 : Nat) ({ cls := "LawfulLots$Log", name := "<init>", desc := "()V" } : Jvm.MethodName) "LawfulLots") ∈ nw := List.mem_of_getElem? (i := 6) rfl
set_option maxRecDepth 10000 in
theorem lk_257 : (Jvm.Cond.instanceMethod ({ cls := "LawfulLots$Log", name := "<init>", desc := "()V" } : Jvm.MethodName)) ∈ gt := List.mem_filter.mpr ⟨in_2 (List.mem_of_getElem? (i := 17) rfl), rfl⟩
set_option maxRecDepth 10000 in
theorem lk_258 : (Jvm.Cond.code ({ cls := "LawfulLots$Log", name := "<init>", desc := "()V" } : Jvm.MethodName) prog_6_method_1_code (1 : Nat) (Option.none : Option Jvm.ClassFile.FieldType)) ∈ gt := List.mem_filter.mpr ⟨in_2 (List.mem_of_getElem? (i := 18) rfl), rfl⟩
set_option maxRecDepth 10000 in
theorem lk_259 : (Jvm.Cond.methodLink "LawfulLots$Log" (3 : Nat) ({ cls := "java/lang/Object", name := "<init>", desc := "()V" } : Jvm.MethodName)) ∈ gt := List.mem_filter.mpr ⟨in_2 (List.mem_of_getElem? (i := 19) rfl), rfl⟩
set_option maxRecDepth 10000 in
theorem lk_260 : (Jvm.Cond.fieldLink "LawfulLots$Log" (9 : Nat) "LawfulLots$Log" "inputs" "[I") ∈ gt := List.mem_filter.mpr ⟨in_2 (List.mem_of_getElem? (i := 20) rfl), rfl⟩
set_option maxRecDepth 10000 in
theorem lk_261 : (Jvm.Cond.fieldLink "LawfulLots$Log" (15 : Nat) "LawfulLots$Log" "size" "I") ∈ gt := List.mem_filter.mpr ⟨in_2 (List.mem_of_getElem? (i := 21) rfl), rfl⟩
set_option maxRecDepth 10000 in
theorem lk_262 : (Jvm.Cond.fieldLink "LawfulLots" (72 : Nat) "LawfulLots$Log" "size" "I") ∈ gt := List.mem_filter.mpr ⟨in_2 (List.mem_of_getElem? (i := 22) rfl), rfl⟩
set_option maxRecDepth 10000 in
theorem lk_268 : (Jvm.Cond.classLink "LawfulLots" (34 : Nat) "LawfulLots$BinTable") ∈ gt := List.mem_filter.mpr ⟨in_2 (List.mem_of_getElem? (i := 28) rfl), rfl⟩
set_option maxRecDepth 10000 in
theorem lk_269 : (Jvm.Cond.instantiable "LawfulLots$BinTable" (11 : Nat)) ∈ gt := List.mem_filter.mpr ⟨in_2 (List.mem_of_getElem? (i := 29) rfl), rfl⟩
set_option maxRecDepth 10000 in
theorem lk_270 : (Jvm.Cond.methodLinkNest "LawfulLots" (36 : Nat) ({ cls := "LawfulLots$BinTable", name := "<init>", desc := "()V" } : Jvm.MethodName) "LawfulLots") ∈ nw := List.mem_of_getElem? (i := 7) rfl
set_option maxRecDepth 10000 in
theorem lk_271 : (Jvm.Cond.instanceMethod ({ cls := "LawfulLots$BinTable", name := "<init>", desc := "()V" } : Jvm.MethodName)) ∈ gt := List.mem_filter.mpr ⟨in_2 (List.mem_of_getElem? (i := 31) rfl), rfl⟩
set_option maxRecDepth 10000 in
theorem lk_272 : (Jvm.Cond.code ({ cls := "LawfulLots$BinTable", name := "<init>", desc := "()V" } : Jvm.MethodName) prog_2_method_1_code (1 : Nat) (Option.none : Option Jvm.ClassFile.FieldType)) ∈ gt := List.mem_filter.mpr ⟨in_2 (List.mem_of_getElem? (i := 32) rfl), rfl⟩
set_option maxRecDepth 10000 in
theorem lk_273 : (Jvm.Cond.methodLink "LawfulLots$BinTable" (3 : Nat) ({ cls := "java/lang/Object", name := "<init>", desc := "()V" } : Jvm.MethodName)) ∈ gt := List.mem_filter.mpr ⟨in_2 (List.mem_of_getElem? (i := 33) rfl), rfl⟩
set_option maxRecDepth 10000 in
theorem lk_274 : (Jvm.Cond.fieldLink "LawfulLots$BinTable" (9 : Nat) "LawfulLots$BinTable" "meeting" "[I") ∈ gt := List.mem_filter.mpr ⟨in_2 (List.mem_of_getElem? (i := 34) rfl), rfl⟩
set_option maxRecDepth 10000 in
theorem lk_275 : (Jvm.Cond.fieldLink "LawfulLots$BinTable" (15 : Nat) "LawfulLots$BinTable" "seen" "[I") ∈ gt := List.mem_filter.mpr ⟨in_2 (List.mem_of_getElem? (i := 35) rfl), rfl⟩
set_option maxRecDepth 10000 in
theorem lk_276 : (Jvm.Cond.fieldLink "LawfulLots$BinTable" (18 : Nat) "LawfulLots$BinTable" "firstOf" "[I") ∈ gt := List.mem_filter.mpr ⟨in_2 (List.mem_of_getElem? (i := 36) rfl), rfl⟩
set_option maxRecDepth 10000 in
theorem lk_277 : (Jvm.Cond.fieldLink "LawfulLots$BinTable" (21 : Nat) "LawfulLots$BinTable" "lowestHeight" "[I") ∈ gt := List.mem_filter.mpr ⟨in_2 (List.mem_of_getElem? (i := 37) rfl), rfl⟩
set_option maxRecDepth 10000 in
theorem lk_278 : (Jvm.Cond.fieldLink "LawfulLots$BinTable" (24 : Nat) "LawfulLots$BinTable" "lowestAt" "[I") ∈ gt := List.mem_filter.mpr ⟨in_2 (List.mem_of_getElem? (i := 38) rfl), rfl⟩
set_option maxRecDepth 10000 in
theorem lk_279 : (Jvm.Cond.fieldLink "LawfulLots$BinTable" (27 : Nat) "LawfulLots$BinTable" "fewest" "[I") ∈ gt := List.mem_filter.mpr ⟨in_2 (List.mem_of_getElem? (i := 39) rfl), rfl⟩
set_option maxRecDepth 10000 in
theorem lk_280 : (Jvm.Cond.fieldLink "LawfulLots$BinTable" (30 : Nat) "LawfulLots$BinTable" "seenSize" "I") ∈ gt := List.mem_filter.mpr ⟨in_2 (List.mem_of_getElem? (i := 40) rfl), rfl⟩
set_option maxRecDepth 10000 in
theorem lk_281 : (Jvm.Cond.fieldLink "LawfulLots$BinTable" (34 : Nat) "LawfulLots$BinTable" "target" "I") ∈ gt := List.mem_filter.mpr ⟨in_2 (List.mem_of_getElem? (i := 41) rfl), rfl⟩
set_option maxRecDepth 10000 in
theorem lk_282 : (Jvm.Cond.fieldLink "LawfulLots$BinTable" (37 : Nat) "LawfulLots$BinTable" "fresh" "Z") ∈ gt := List.mem_filter.mpr ⟨in_2 (List.mem_of_getElem? (i := 42) rfl), rfl⟩
set_option maxRecDepth 10000 in
theorem lk_283 : (Jvm.Cond.fieldLink "LawfulLots$BinTable" (41 : Nat) "LawfulLots$BinTable" "lowestFresh" "Z") ∈ gt := List.mem_filter.mpr ⟨in_2 (List.mem_of_getElem? (i := 43) rfl), rfl⟩
set_option maxRecDepth 10000 in
theorem lk_284 : (Jvm.Cond.fieldLink "LawfulLots$BinTable" (44 : Nat) "LawfulLots$BinTable" "planned" "Z") ∈ gt := List.mem_filter.mpr ⟨in_2 (List.mem_of_getElem? (i := 44) rfl), rfl⟩
set_option maxRecDepth 10000 in
theorem lk_285 : (Jvm.Cond.fieldLink "LawfulLots" (135 : Nat) "LawfulLots$BinTable" "planned" "Z") ∈ gt := List.mem_filter.mpr ⟨in_2 (List.mem_of_getElem? (i := 45) rfl), rfl⟩
set_option maxRecDepth 10000 in
theorem lk_309 : (Jvm.Cond.classLink "LawfulLots" (41 : Nat) "LawfulLots$Chains") ∈ gt := List.mem_filter.mpr ⟨in_2 (List.mem_of_getElem? (i := 69) rfl), rfl⟩
set_option maxRecDepth 10000 in
theorem lk_310 : (Jvm.Cond.instantiable "LawfulLots$Chains" (7 : Nat)) ∈ gt := List.mem_filter.mpr ⟨in_2 (List.mem_of_getElem? (i := 70) rfl), rfl⟩
set_option maxRecDepth 10000 in
theorem lk_311 : (Jvm.Cond.methodLinkNest "LawfulLots" (43 : Nat) ({ cls := "LawfulLots$Chains", name := "<init>", desc := "()V" } : Jvm.MethodName) "LawfulLots") ∈ nw := List.mem_of_getElem? (i := 8) rfl
set_option maxRecDepth 10000 in
theorem lk_312 : (Jvm.Cond.instanceMethod ({ cls := "LawfulLots$Chains", name := "<init>", desc := "()V" } : Jvm.MethodName)) ∈ gt := List.mem_filter.mpr ⟨in_2 (List.mem_of_getElem? (i := 72) rfl), rfl⟩
set_option maxRecDepth 10000 in
theorem lk_313 : (Jvm.Cond.code ({ cls := "LawfulLots$Chains", name := "<init>", desc := "()V" } : Jvm.MethodName) prog_4_method_1_code (1 : Nat) (Option.none : Option Jvm.ClassFile.FieldType)) ∈ gt := List.mem_filter.mpr ⟨in_2 (List.mem_of_getElem? (i := 73) rfl), rfl⟩
set_option maxRecDepth 10000 in
theorem lk_314 : (Jvm.Cond.methodLink "LawfulLots$Chains" (3 : Nat) ({ cls := "java/lang/Object", name := "<init>", desc := "()V" } : Jvm.MethodName)) ∈ gt := List.mem_filter.mpr ⟨in_2 (List.mem_of_getElem? (i := 74) rfl), rfl⟩
set_option maxRecDepth 10000 in
theorem lk_315 : (Jvm.Cond.classLink "LawfulLots$Chains" (9 : Nat) "LawfulLots$Machine") ∈ gt := List.mem_filter.mpr ⟨in_2 (List.mem_of_getElem? (i := 75) rfl), rfl⟩
set_option maxRecDepth 10000 in
theorem lk_316 : (Jvm.Cond.methodLinkNest "LawfulLots$Chains" (11 : Nat) ({ cls := "LawfulLots$Machine", name := "<init>", desc := "()V" } : Jvm.MethodName) "LawfulLots") ∈ nw := List.mem_of_getElem? (i := 9) rfl
set_option maxRecDepth 10000 in
theorem lk_317 : (Jvm.Cond.fieldLink "LawfulLots$Chains" (12 : Nat) "LawfulLots$Chains" "machine" "LLawfulLots$Machine;") ∈ gt := List.mem_filter.mpr ⟨in_2 (List.mem_of_getElem? (i := 77) rfl), rfl⟩
set_option maxRecDepth 10000 in
theorem lk_318 : (Jvm.Cond.fieldLink "LawfulLots$Chains" (18 : Nat) "LawfulLots$Chains" "now" "[I") ∈ gt := List.mem_filter.mpr ⟨in_2 (List.mem_of_getElem? (i := 78) rfl), rfl⟩
set_option maxRecDepth 10000 in
theorem lk_319 : (Jvm.Cond.fieldLink "LawfulLots$Chains" (22 : Nat) "LawfulLots$Chains" "old" "[I") ∈ gt := List.mem_filter.mpr ⟨in_2 (List.mem_of_getElem? (i := 79) rfl), rfl⟩
set_option maxRecDepth 10000 in
theorem lk_320 : (Jvm.Cond.fieldLink "LawfulLots$Chains" (25 : Nat) "LawfulLots$Chains" "behind" "[J") ∈ gt := List.mem_filter.mpr ⟨in_2 (List.mem_of_getElem? (i := 80) rfl), rfl⟩
set_option maxRecDepth 10000 in
theorem lk_321 : (Jvm.Cond.fieldLink "LawfulLots$Chains" (29 : Nat) "LawfulLots$Chains" "ways" "[J") ∈ gt := List.mem_filter.mpr ⟨in_2 (List.mem_of_getElem? (i := 81) rfl), rfl⟩
set_option maxRecDepth 10000 in
theorem lk_322 : (Jvm.Cond.fieldLink "LawfulLots$Chains" (32 : Nat) "LawfulLots$Chains" "size" "I") ∈ gt := List.mem_filter.mpr ⟨in_2 (List.mem_of_getElem? (i := 82) rfl), rfl⟩
set_option maxRecDepth 10000 in
theorem lk_323 : (Jvm.Cond.fieldLink "LawfulLots$Chains" (36 : Nat) "LawfulLots$Chains" "fresh" "Z") ∈ gt := List.mem_filter.mpr ⟨in_2 (List.mem_of_getElem? (i := 83) rfl), rfl⟩
set_option maxRecDepth 10000 in
theorem lk_324 : (Jvm.Cond.fieldLink "LawfulLots" (81 : Nat) "LawfulLots$Chains" "fresh" "Z") ∈ gt := List.mem_filter.mpr ⟨in_2 (List.mem_of_getElem? (i := 84) rfl), rfl⟩
set_option maxRecDepth 10000 in
theorem lk_340 : (Jvm.Cond.fieldLink "LawfulLots" (9 : Nat) "LawfulLots" "tape" "[B") ∈ gt := List.mem_filter.mpr ⟨in_2 (List.mem_of_getElem? (i := 100) rfl), rfl⟩
set_option maxRecDepth 10000 in
theorem lk_341 : (Jvm.Cond.fieldLink "LawfulLots" (16 : Nat) "LawfulLots" "reader" "LLawfulLots$Reader;") ∈ gt := List.mem_filter.mpr ⟨in_2 (List.mem_of_getElem? (i := 101) rfl), rfl⟩
set_option maxRecDepth 10000 in
theorem lk_342 : (Jvm.Cond.fieldLink "LawfulLots" (23 : Nat) "LawfulLots" "chart" "LLawfulLots$Chart;") ∈ gt := List.mem_filter.mpr ⟨in_2 (List.mem_of_getElem? (i := 102) rfl), rfl⟩
set_option maxRecDepth 10000 in
theorem lk_343 : (Jvm.Cond.fieldLink "LawfulLots" (30 : Nat) "LawfulLots" "log" "LLawfulLots$Log;") ∈ gt := List.mem_filter.mpr ⟨in_2 (List.mem_of_getElem? (i := 103) rfl), rfl⟩
set_option maxRecDepth 10000 in
theorem lk_344 : (Jvm.Cond.fieldLink "LawfulLots" (37 : Nat) "LawfulLots" "bins" "LLawfulLots$BinTable;") ∈ gt := List.mem_filter.mpr ⟨in_2 (List.mem_of_getElem? (i := 104) rfl), rfl⟩
set_option maxRecDepth 10000 in
theorem lk_345 : (Jvm.Cond.fieldLink "LawfulLots" (44 : Nat) "LawfulLots" "chains" "LLawfulLots$Chains;") ∈ gt := List.mem_filter.mpr ⟨in_2 (List.mem_of_getElem? (i := 105) rfl), rfl⟩
set_option maxRecDepth 10000 in
theorem lk_346 : (Jvm.Cond.fieldLink "LawfulLots" (48 : Nat) "LawfulLots" "taped" "I") ∈ gt := List.mem_filter.mpr ⟨in_2 (List.mem_of_getElem? (i := 106) rfl), rfl⟩
set_option maxRecDepth 10000 in
theorem lk_347 : (Jvm.Cond.fieldLink "LawfulLots" (52 : Nat) "LawfulLots" "faultPlace" "I") ∈ gt := List.mem_filter.mpr ⟨in_2 (List.mem_of_getElem? (i := 107) rfl), rfl⟩
set_option maxRecDepth 10000 in
theorem lk_365 : (Jvm.Cond.methodLink "LawfulLotsLaw" (13 : Nat) ({ cls := "LawfulLots", name := "feed", desc := "(IIIII)I" } : Jvm.MethodName)) ∈ gt := List.mem_filter.mpr ⟨in_2 (List.mem_of_getElem? (i := 125) rfl), rfl⟩
set_option maxRecDepth 10000 in
theorem lk_366 : (Jvm.Cond.instanceMethod ({ cls := "LawfulLots", name := "feed", desc := "(IIIII)I" } : Jvm.MethodName)) ∈ gt := List.mem_filter.mpr ⟨in_2 (List.mem_of_getElem? (i := 126) rfl), rfl⟩
set_option maxRecDepth 10000 in
theorem lk_367 : (Jvm.Cond.selects "LawfulLots" ({ cls := "LawfulLots", name := "feed", desc := "(IIIII)I" } : Jvm.MethodName) ({ cls := "LawfulLots", name := "feed", desc := "(IIIII)I" } : Jvm.MethodName)) ∈ gt := List.mem_filter.mpr ⟨in_2 (List.mem_of_getElem? (i := 127) rfl), rfl⟩
set_option maxRecDepth 10000 in
theorem lk_368 : (Jvm.Cond.code ({ cls := "LawfulLots", name := "feed", desc := "(IIIII)I" } : Jvm.MethodName) prog_1_method_2_code (6 : Nat) (Option.some Jvm.ClassFile.FieldType.int)) ∈ gt := List.mem_filter.mpr ⟨in_2 (List.mem_of_getElem? (i := 128) rfl), rfl⟩
set_option maxRecDepth 10000 in
theorem lk_369 : (Jvm.Cond.methodLink "LawfulLots" (55 : Nat) ({ cls := "LawfulLots", name := "append", desc := "(I)V" } : Jvm.MethodName)) ∈ gt := List.mem_filter.mpr ⟨in_2 (List.mem_of_getElem? (i := 129) rfl), rfl⟩
set_option maxRecDepth 10000 in
theorem lk_371 : (Jvm.Cond.instanceMethod ({ cls := "LawfulLots", name := "append", desc := "(I)V" } : Jvm.MethodName)) ∈ gt := List.mem_filter.mpr ⟨in_2 (List.mem_of_getElem? (i := 131) rfl), rfl⟩
set_option maxRecDepth 10000 in
theorem lk_372 : (Jvm.Cond.code ({ cls := "LawfulLots", name := "append", desc := "(I)V" } : Jvm.MethodName) prog_1_method_3_code (3 : Nat) (Option.none : Option Jvm.ClassFile.FieldType)) ∈ gt := List.mem_filter.mpr ⟨in_2 (List.mem_of_getElem? (i := 132) rfl), rfl⟩
set_option maxRecDepth 10000 in
theorem lk_373 : (Jvm.Cond.methodLink "LawfulLotsLaw" (18 : Nat) ({ cls := "LawfulLots", name := "back", desc := "(I)I" } : Jvm.MethodName)) ∈ gt := List.mem_filter.mpr ⟨in_2 (List.mem_of_getElem? (i := 133) rfl), rfl⟩
set_option maxRecDepth 10000 in
theorem lk_374 : (Jvm.Cond.instanceMethod ({ cls := "LawfulLots", name := "back", desc := "(I)I" } : Jvm.MethodName)) ∈ gt := List.mem_filter.mpr ⟨in_2 (List.mem_of_getElem? (i := 134) rfl), rfl⟩
set_option maxRecDepth 10000 in
theorem lk_375 : (Jvm.Cond.selects "LawfulLots" ({ cls := "LawfulLots", name := "back", desc := "(I)I" } : Jvm.MethodName) ({ cls := "LawfulLots", name := "back", desc := "(I)I" } : Jvm.MethodName)) ∈ gt := List.mem_filter.mpr ⟨in_2 (List.mem_of_getElem? (i := 135) rfl), rfl⟩
set_option maxRecDepth 10000 in
theorem lk_376 : (Jvm.Cond.code ({ cls := "LawfulLots", name := "back", desc := "(I)I" } : Jvm.MethodName) prog_1_method_4_code (2 : Nat) (Option.some Jvm.ClassFile.FieldType.int)) ∈ gt := List.mem_filter.mpr ⟨in_2 (List.mem_of_getElem? (i := 136) rfl), rfl⟩
set_option maxRecDepth 10000 in
theorem lk_377 : (Jvm.Cond.methodLink "LawfulLotsLaw" (23 : Nat) ({ cls := "LawfulLots", name := "read", desc := "()I" } : Jvm.MethodName)) ∈ gt := List.mem_filter.mpr ⟨in_2 (List.mem_of_getElem? (i := 137) rfl), rfl⟩
set_option maxRecDepth 10000 in
theorem lk_378 : (Jvm.Cond.instanceMethod ({ cls := "LawfulLots", name := "read", desc := "()I" } : Jvm.MethodName)) ∈ gt := List.mem_filter.mpr ⟨in_2 (List.mem_of_getElem? (i := 138) rfl), rfl⟩
set_option maxRecDepth 10000 in
theorem lk_379 : (Jvm.Cond.selects "LawfulLots" ({ cls := "LawfulLots", name := "read", desc := "()I" } : Jvm.MethodName) ({ cls := "LawfulLots", name := "read", desc := "()I" } : Jvm.MethodName)) ∈ gt := List.mem_filter.mpr ⟨in_2 (List.mem_of_getElem? (i := 139) rfl), rfl⟩
set_option maxRecDepth 10000 in
theorem lk_380 : (Jvm.Cond.code ({ cls := "LawfulLots", name := "read", desc := "()I" } : Jvm.MethodName) prog_1_method_5_code (2 : Nat) (Option.some Jvm.ClassFile.FieldType.int)) ∈ gt := List.mem_filter.mpr ⟨in_2 (List.mem_of_getElem? (i := 140) rfl), rfl⟩
set_option maxRecDepth 10000 in
theorem lk_381 : (Jvm.Cond.methodLink "LawfulLots" (59 : Nat) ({ cls := "LawfulLots$Reader", name := "understand", desc := "([BI)I" } : Jvm.MethodName)) ∈ gt := List.mem_filter.mpr ⟨in_2 (List.mem_of_getElem? (i := 141) rfl), rfl⟩
set_option maxRecDepth 10000 in
theorem lk_382 : (Jvm.Cond.instanceMethod ({ cls := "LawfulLots$Reader", name := "understand", desc := "([BI)I" } : Jvm.MethodName)) ∈ gt := List.mem_filter.mpr ⟨in_2 (List.mem_of_getElem? (i := 142) rfl), rfl⟩
set_option maxRecDepth 10000 in
theorem lk_383 : (Jvm.Cond.selects "LawfulLots$Reader" ({ cls := "LawfulLots$Reader", name := "understand", desc := "([BI)I" } : Jvm.MethodName) ({ cls := "LawfulLots$Reader", name := "understand", desc := "([BI)I" } : Jvm.MethodName)) ∈ gt := List.mem_filter.mpr ⟨in_2 (List.mem_of_getElem? (i := 143) rfl), rfl⟩
set_option maxRecDepth 10000 in
theorem lk_384 : (Jvm.Cond.code ({ cls := "LawfulLots$Reader", name := "understand", desc := "([BI)I" } : Jvm.MethodName) prog_8_method_2_code (4 : Nat) (Option.some Jvm.ClassFile.FieldType.int)) ∈ gt := List.mem_filter.mpr ⟨in_2 (List.mem_of_getElem? (i := 144) rfl), rfl⟩
set_option maxRecDepth 10000 in
theorem lk_385 : (Jvm.Cond.methodLink "LawfulLots$Reader" (74 : Nat) ({ cls := "LawfulLots$Book", name := "clear", desc := "()V" } : Jvm.MethodName)) ∈ gt := List.mem_filter.mpr ⟨in_2 (List.mem_of_getElem? (i := 145) rfl), rfl⟩
set_option maxRecDepth 10000 in
theorem lk_386 : (Jvm.Cond.instanceMethod ({ cls := "LawfulLots$Book", name := "clear", desc := "()V" } : Jvm.MethodName)) ∈ gt := List.mem_filter.mpr ⟨in_2 (List.mem_of_getElem? (i := 146) rfl), rfl⟩
set_option maxRecDepth 10000 in
theorem lk_387 : (Jvm.Cond.selects "LawfulLots$Book" ({ cls := "LawfulLots$Book", name := "clear", desc := "()V" } : Jvm.MethodName) ({ cls := "LawfulLots$Book", name := "clear", desc := "()V" } : Jvm.MethodName)) ∈ gt := List.mem_filter.mpr ⟨in_2 (List.mem_of_getElem? (i := 147) rfl), rfl⟩
set_option maxRecDepth 10000 in
theorem lk_388 : (Jvm.Cond.code ({ cls := "LawfulLots$Book", name := "clear", desc := "()V" } : Jvm.MethodName) prog_3_method_2_code (1 : Nat) (Option.none : Option Jvm.ClassFile.FieldType)) ∈ gt := List.mem_filter.mpr ⟨in_2 (List.mem_of_getElem? (i := 148) rfl), rfl⟩
set_option maxRecDepth 10000 in
theorem lk_389 : (Jvm.Cond.methodLink "LawfulLots$Book" (53 : Nat) ({ cls := "java/util/Arrays", name := "fill", desc := "([II)V" } : Jvm.MethodName)) ∈ gt := List.mem_filter.mpr ⟨in_2 (List.mem_of_getElem? (i := 149) rfl), rfl⟩
set_option maxRecDepth 10000 in
theorem lk_390 : (Jvm.Cond.static ({ cls := "java/util/Arrays", name := "fill", desc := "([II)V" } : Jvm.MethodName)) ∈ gt := List.mem_filter.mpr ⟨in_2 (List.mem_of_getElem? (i := 150) rfl), rfl⟩
set_option maxRecDepth 10000 in
theorem lk_391 : (Jvm.Cond.code ({ cls := "java/util/Arrays", name := "fill", desc := "([II)V" } : Jvm.MethodName) prog_14_method_103_code (4 : Nat) (Option.none : Option Jvm.ClassFile.FieldType)) ∈ gt := List.mem_filter.mpr ⟨in_2 (List.mem_of_getElem? (i := 151) rfl), rfl⟩
set_option maxRecDepth 10000 in
theorem lk_392 : (Jvm.Cond.methodLink "LawfulLots$Reader" (77 : Nat) ({ cls := "LawfulLots$Scanner", name := "begin", desc := "([BI)V" } : Jvm.MethodName)) ∈ gt := List.mem_filter.mpr ⟨in_2 (List.mem_of_getElem? (i := 152) rfl), rfl⟩
set_option maxRecDepth 10000 in
theorem lk_393 : (Jvm.Cond.instanceMethod ({ cls := "LawfulLots$Scanner", name := "begin", desc := "([BI)V" } : Jvm.MethodName)) ∈ gt := List.mem_filter.mpr ⟨in_2 (List.mem_of_getElem? (i := 153) rfl), rfl⟩
set_option maxRecDepth 10000 in
theorem lk_394 : (Jvm.Cond.selects "LawfulLots$Scanner" ({ cls := "LawfulLots$Scanner", name := "begin", desc := "([BI)V" } : Jvm.MethodName) ({ cls := "LawfulLots$Scanner", name := "begin", desc := "([BI)V" } : Jvm.MethodName)) ∈ gt := List.mem_filter.mpr ⟨in_2 (List.mem_of_getElem? (i := 154) rfl), rfl⟩
set_option maxRecDepth 10000 in
theorem lk_395 : (Jvm.Cond.code ({ cls := "LawfulLots$Scanner", name := "begin", desc := "([BI)V" } : Jvm.MethodName) prog_9_method_2_code (3 : Nat) (Option.none : Option Jvm.ClassFile.FieldType)) ∈ gt := List.mem_filter.mpr ⟨in_2 (List.mem_of_getElem? (i := 155) rfl), rfl⟩
set_option maxRecDepth 10000 in
theorem lk_396 : (Jvm.Cond.methodLink "LawfulLots$Scanner" (35 : Nat) ({ cls := "java/lang/Math", name := "min", desc := "(II)I" } : Jvm.MethodName)) ∈ gt := List.mem_filter.mpr ⟨in_2 (List.mem_of_getElem? (i := 156) rfl), rfl⟩
set_option maxRecDepth 10000 in
theorem lk_397 : (Jvm.Cond.static ({ cls := "java/lang/Math", name := "min", desc := "(II)I" } : Jvm.MethodName)) ∈ gt := List.mem_filter.mpr ⟨in_2 (List.mem_of_getElem? (i := 157) rfl), rfl⟩
set_option maxRecDepth 10000 in
theorem lk_398 : (Jvm.Cond.code ({ cls := "java/lang/Math", name := "min", desc := "(II)I" } : Jvm.MethodName) prog_13_method_69_code (2 : Nat) (Option.some Jvm.ClassFile.FieldType.int)) ∈ gt := List.mem_filter.mpr ⟨in_2 (List.mem_of_getElem? (i := 158) rfl), rfl⟩
set_option maxRecDepth 10000 in
theorem lk_399 : (Jvm.Cond.methodLink "LawfulLots$Scanner" (41 : Nat) ({ cls := "java/lang/Math", name := "max", desc := "(II)I" } : Jvm.MethodName)) ∈ gt := List.mem_filter.mpr ⟨in_2 (List.mem_of_getElem? (i := 159) rfl), rfl⟩
set_option maxRecDepth 10000 in
theorem lk_400 : (Jvm.Cond.static ({ cls := "java/lang/Math", name := "max", desc := "(II)I" } : Jvm.MethodName)) ∈ gt := List.mem_filter.mpr ⟨in_2 (List.mem_of_getElem? (i := 160) rfl), rfl⟩
set_option maxRecDepth 10000 in
theorem lk_401 : (Jvm.Cond.code ({ cls := "java/lang/Math", name := "max", desc := "(II)I" } : Jvm.MethodName) prog_13_method_65_code (2 : Nat) (Option.some Jvm.ClassFile.FieldType.int)) ∈ gt := List.mem_filter.mpr ⟨in_2 (List.mem_of_getElem? (i := 161) rfl), rfl⟩
set_option maxRecDepth 10000 in
theorem lk_402 : (Jvm.Cond.methodLink "LawfulLots$Scanner" (44 : Nat) ({ cls := "LawfulLots$Scanner", name := "advance", desc := "()V" } : Jvm.MethodName)) ∈ gt := List.mem_filter.mpr ⟨in_2 (List.mem_of_getElem? (i := 162) rfl), rfl⟩
set_option maxRecDepth 10000 in
theorem lk_403 : (Jvm.Cond.instanceMethod ({ cls := "LawfulLots$Scanner", name := "advance", desc := "()V" } : Jvm.MethodName)) ∈ gt := List.mem_filter.mpr ⟨in_2 (List.mem_of_getElem? (i := 163) rfl), rfl⟩
set_option maxRecDepth 10000 in
theorem lk_404 : (Jvm.Cond.selects "LawfulLots$Scanner" ({ cls := "LawfulLots$Scanner", name := "advance", desc := "()V" } : Jvm.MethodName) ({ cls := "LawfulLots$Scanner", name := "advance", desc := "()V" } : Jvm.MethodName)) ∈ gt := List.mem_filter.mpr ⟨in_2 (List.mem_of_getElem? (i := 164) rfl), rfl⟩
set_option maxRecDepth 10000 in
theorem lk_405 : (Jvm.Cond.code ({ cls := "LawfulLots$Scanner", name := "advance", desc := "()V" } : Jvm.MethodName) prog_9_method_3_code (1 : Nat) (Option.none : Option Jvm.ClassFile.FieldType)) ∈ gt := List.mem_filter.mpr ⟨in_2 (List.mem_of_getElem? (i := 165) rfl), rfl⟩
set_option maxRecDepth 10000 in
theorem lk_406 : (Jvm.Cond.methodLink "LawfulLots$Scanner" (47 : Nat) ({ cls := "LawfulLots$Scanner", name := "isBlank", desc := "(I)Z" } : Jvm.MethodName)) ∈ gt := List.mem_filter.mpr ⟨in_2 (List.mem_of_getElem? (i := 166) rfl), rfl⟩
set_option maxRecDepth 10000 in
theorem lk_407 : (Jvm.Cond.static ({ cls := "LawfulLots$Scanner", name := "isBlank", desc := "(I)Z" } : Jvm.MethodName)) ∈ gt := List.mem_filter.mpr ⟨in_2 (List.mem_of_getElem? (i := 167) rfl), rfl⟩
set_option maxRecDepth 10000 in
theorem lk_408 : (Jvm.Cond.code ({ cls := "LawfulLots$Scanner", name := "isBlank", desc := "(I)Z" } : Jvm.MethodName) prog_9_method_10_code (1 : Nat) (Option.some Jvm.ClassFile.FieldType.boolean)) ∈ gt := List.mem_filter.mpr ⟨in_2 (List.mem_of_getElem? (i := 168) rfl), rfl⟩
set_option maxRecDepth 10000 in
theorem lk_409 : (Jvm.Cond.methodLink "LawfulLots$Scanner" (51 : Nat) ({ cls := "LawfulLots$Scanner", name := "isLetter", desc := "(I)Z" } : Jvm.MethodName)) ∈ gt := List.mem_filter.mpr ⟨in_2 (List.mem_of_getElem? (i := 169) rfl), rfl⟩
set_option maxRecDepth 10000 in
theorem lk_410 : (Jvm.Cond.static ({ cls := "LawfulLots$Scanner", name := "isLetter", desc := "(I)Z" } : Jvm.MethodName)) ∈ gt := List.mem_filter.mpr ⟨in_2 (List.mem_of_getElem? (i := 170) rfl), rfl⟩
set_option maxRecDepth 10000 in
theorem lk_411 : (Jvm.Cond.code ({ cls := "LawfulLots$Scanner", name := "isLetter", desc := "(I)Z" } : Jvm.MethodName) prog_9_method_11_code (1 : Nat) (Option.some Jvm.ClassFile.FieldType.boolean)) ∈ gt := List.mem_filter.mpr ⟨in_2 (List.mem_of_getElem? (i := 171) rfl), rfl⟩
set_option maxRecDepth 10000 in
theorem lk_412 : (Jvm.Cond.methodLink "LawfulLots$Scanner" (54 : Nat) ({ cls := "LawfulLots$Scanner", name := "scanName", desc := "()V" } : Jvm.MethodName)) ∈ gt := List.mem_filter.mpr ⟨in_2 (List.mem_of_getElem? (i := 172) rfl), rfl⟩
set_option maxRecDepth 10000 in
theorem lk_414 : (Jvm.Cond.instanceMethod ({ cls := "LawfulLots$Scanner", name := "scanName", desc := "()V" } : Jvm.MethodName)) ∈ gt := List.mem_filter.mpr ⟨in_2 (List.mem_of_getElem? (i := 174) rfl), rfl⟩
set_option maxRecDepth 10000 in
theorem lk_415 : (Jvm.Cond.code ({ cls := "LawfulLots$Scanner", name := "scanName", desc := "()V" } : Jvm.MethodName) prog_9_method_4_code (1 : Nat) (Option.none : Option Jvm.ClassFile.FieldType)) ∈ gt := List.mem_filter.mpr ⟨in_2 (List.mem_of_getElem? (i := 175) rfl), rfl⟩
set_option maxRecDepth 10000 in
theorem lk_416 : (Jvm.Cond.methodLink "LawfulLots$Scanner" (57 : Nat) ({ cls := "LawfulLots$Scanner", name := "isDigit", desc := "(I)Z" } : Jvm.MethodName)) ∈ gt := List.mem_filter.mpr ⟨in_2 (List.mem_of_getElem? (i := 176) rfl), rfl⟩
set_option maxRecDepth 10000 in
theorem lk_417 : (Jvm.Cond.static ({ cls := "LawfulLots$Scanner", name := "isDigit", desc := "(I)Z" } : Jvm.MethodName)) ∈ gt := List.mem_filter.mpr ⟨in_2 (List.mem_of_getElem? (i := 177) rfl), rfl⟩
set_option maxRecDepth 10000 in
theorem lk_418 : (Jvm.Cond.code ({ cls := "LawfulLots$Scanner", name := "isDigit", desc := "(I)Z" } : Jvm.MethodName) prog_9_method_12_code (1 : Nat) (Option.some Jvm.ClassFile.FieldType.boolean)) ∈ gt := List.mem_filter.mpr ⟨in_2 (List.mem_of_getElem? (i := 178) rfl), rfl⟩
set_option maxRecDepth 10000 in
theorem lk_419 : (Jvm.Cond.methodLink "LawfulLots$Scanner" (67 : Nat) ({ cls := "LawfulLots$Scanner", name := "wordOrName", desc := "()I" } : Jvm.MethodName)) ∈ gt := List.mem_filter.mpr ⟨in_2 (List.mem_of_getElem? (i := 179) rfl), rfl⟩
set_option maxRecDepth 10000 in
theorem lk_421 : (Jvm.Cond.instanceMethod ({ cls := "LawfulLots$Scanner", name := "wordOrName", desc := "()I" } : Jvm.MethodName)) ∈ gt := List.mem_filter.mpr ⟨in_2 (List.mem_of_getElem? (i := 181) rfl), rfl⟩
set_option maxRecDepth 10000 in
theorem lk_422 : (Jvm.Cond.code ({ cls := "LawfulLots$Scanner", name := "wordOrName", desc := "()I" } : Jvm.MethodName) prog_9_method_5_code (2 : Nat) (Option.some Jvm.ClassFile.FieldType.int)) ∈ gt := List.mem_filter.mpr ⟨in_2 (List.mem_of_getElem? (i := 182) rfl), rfl⟩
set_option maxRecDepth 10000 in
theorem lk_423 : (Jvm.Cond.fieldLinkNest "LawfulLots$Scanner" (71 : Nat) "LawfulLots" "WORDS" "[J" "LawfulLots") ∈ nw := List.mem_of_getElem? (i := 10) rfl
set_option maxRecDepth 10000 in
theorem lk_425 : (Jvm.Cond.methodLink "LawfulLots$Scanner" (60 : Nat) ({ cls := "LawfulLots$Scanner", name := "scanInt", desc := "()V" } : Jvm.MethodName)) ∈ gt := List.mem_filter.mpr ⟨in_2 (List.mem_of_getElem? (i := 185) rfl), rfl⟩
set_option maxRecDepth 10000 in
theorem lk_427 : (Jvm.Cond.instanceMethod ({ cls := "LawfulLots$Scanner", name := "scanInt", desc := "()V" } : Jvm.MethodName)) ∈ gt := List.mem_filter.mpr ⟨in_2 (List.mem_of_getElem? (i := 187) rfl), rfl⟩
set_option maxRecDepth 10000 in
theorem lk_428 : (Jvm.Cond.code ({ cls := "LawfulLots$Scanner", name := "scanInt", desc := "()V" } : Jvm.MethodName) prog_9_method_6_code (1 : Nat) (Option.none : Option Jvm.ClassFile.FieldType)) ∈ gt := List.mem_filter.mpr ⟨in_2 (List.mem_of_getElem? (i := 188) rfl), rfl⟩
set_option maxRecDepth 10000 in
theorem lk_429 : (Jvm.Cond.methodLink "LawfulLots$Scanner" (63 : Nat) ({ cls := "LawfulLots$Scanner", name := "scanSign", desc := "(I)V" } : Jvm.MethodName)) ∈ gt := List.mem_filter.mpr ⟨in_2 (List.mem_of_getElem? (i := 189) rfl), rfl⟩
set_option maxRecDepth 10000 in
theorem lk_431 : (Jvm.Cond.instanceMethod ({ cls := "LawfulLots$Scanner", name := "scanSign", desc := "(I)V" } : Jvm.MethodName)) ∈ gt := List.mem_filter.mpr ⟨in_2 (List.mem_of_getElem? (i := 191) rfl), rfl⟩
set_option maxRecDepth 10000 in
theorem lk_432 : (Jvm.Cond.code ({ cls := "LawfulLots$Scanner", name := "scanSign", desc := "(I)V" } : Jvm.MethodName) prog_9_method_7_code (3 : Nat) (Option.none : Option Jvm.ClassFile.FieldType)) ∈ gt := List.mem_filter.mpr ⟨in_2 (List.mem_of_getElem? (i := 192) rfl), rfl⟩
set_option maxRecDepth 10000 in
theorem lk_433 : (Jvm.Cond.methodLink "LawfulLots$Scanner" (75 : Nat) ({ cls := "LawfulLots$Scanner", name := "signWithEqual", desc := "(I)I" } : Jvm.MethodName)) ∈ gt := List.mem_filter.mpr ⟨in_2 (List.mem_of_getElem? (i := 193) rfl), rfl⟩
set_option maxRecDepth 10000 in
theorem lk_434 : (Jvm.Cond.static ({ cls := "LawfulLots$Scanner", name := "signWithEqual", desc := "(I)I" } : Jvm.MethodName)) ∈ gt := List.mem_filter.mpr ⟨in_2 (List.mem_of_getElem? (i := 194) rfl), rfl⟩
set_option maxRecDepth 10000 in
theorem lk_435 : (Jvm.Cond.code ({ cls := "LawfulLots$Scanner", name := "signWithEqual", desc := "(I)I" } : Jvm.MethodName) prog_9_method_8_code (1 : Nat) (Option.some Jvm.ClassFile.FieldType.int)) ∈ gt := List.mem_filter.mpr ⟨in_2 (List.mem_of_getElem? (i := 195) rfl), rfl⟩
set_option maxRecDepth 10000 in
theorem lk_436 : (Jvm.Cond.methodLink "LawfulLots$Scanner" (79 : Nat) ({ cls := "LawfulLots$Scanner", name := "plainSign", desc := "(I)I" } : Jvm.MethodName)) ∈ gt := List.mem_filter.mpr ⟨in_2 (List.mem_of_getElem? (i := 196) rfl), rfl⟩
set_option maxRecDepth 10000 in
theorem lk_437 : (Jvm.Cond.static ({ cls := "LawfulLots$Scanner", name := "plainSign", desc := "(I)I" } : Jvm.MethodName)) ∈ gt := List.mem_filter.mpr ⟨in_2 (List.mem_of_getElem? (i := 197) rfl), rfl⟩
set_option maxRecDepth 10000 in
theorem lk_438 : (Jvm.Cond.code ({ cls := "LawfulLots$Scanner", name := "plainSign", desc := "(I)I" } : Jvm.MethodName) prog_9_method_9_code (1 : Nat) (Option.some Jvm.ClassFile.FieldType.int)) ∈ gt := List.mem_filter.mpr ⟨in_2 (List.mem_of_getElem? (i := 198) rfl), rfl⟩
set_option maxRecDepth 10000 in
theorem lk_439 : (Jvm.Cond.methodLink "LawfulLots$Reader" (84 : Nat) ({ cls := "LawfulLots$Reader", name := "goOn", desc := "(I)I" } : Jvm.MethodName)) ∈ gt := List.mem_filter.mpr ⟨in_2 (List.mem_of_getElem? (i := 199) rfl), rfl⟩
set_option maxRecDepth 10000 in
theorem lk_441 : (Jvm.Cond.instanceMethod ({ cls := "LawfulLots$Reader", name := "goOn", desc := "(I)I" } : Jvm.MethodName)) ∈ gt := List.mem_filter.mpr ⟨in_2 (List.mem_of_getElem? (i := 201) rfl), rfl⟩
set_option maxRecDepth 10000 in
theorem lk_442 : (Jvm.Cond.code ({ cls := "LawfulLots$Reader", name := "goOn", desc := "(I)I" } : Jvm.MethodName) prog_8_method_5_code (2 : Nat) (Option.some Jvm.ClassFile.FieldType.int)) ∈ gt := List.mem_filter.mpr ⟨in_2 (List.mem_of_getElem? (i := 202) rfl), rfl⟩
set_option maxRecDepth 10000 in
theorem lk_443 : (Jvm.Cond.methodLink "LawfulLots$Reader" (101 : Nat) ({ cls := "LawfulLots$Reader", name := "beginTell", desc := "(I)I" } : Jvm.MethodName)) ∈ gt := List.mem_filter.mpr ⟨in_2 (List.mem_of_getElem? (i := 203) rfl), rfl⟩
set_option maxRecDepth 10000 in
theorem lk_445 : (Jvm.Cond.instanceMethod ({ cls := "LawfulLots$Reader", name := "beginTell", desc := "(I)I" } : Jvm.MethodName)) ∈ gt := List.mem_filter.mpr ⟨in_2 (List.mem_of_getElem? (i := 205) rfl), rfl⟩
set_option maxRecDepth 10000 in
theorem lk_446 : (Jvm.Cond.code ({ cls := "LawfulLots$Reader", name := "beginTell", desc := "(I)I" } : Jvm.MethodName) prog_8_method_6_code (2 : Nat) (Option.some Jvm.ClassFile.FieldType.int)) ∈ gt := List.mem_filter.mpr ⟨in_2 (List.mem_of_getElem? (i := 206) rfl), rfl⟩
set_option maxRecDepth 10000 in
theorem lk_447 : (Jvm.Cond.methodLink "LawfulLots$Reader" (132 : Nat) ({ cls := "LawfulLots$Reader", name := "beginSort", desc := "(II)I" } : Jvm.MethodName)) ∈ gt := List.mem_filter.mpr ⟨in_2 (List.mem_of_getElem? (i := 207) rfl), rfl⟩
set_option maxRecDepth 10000 in
theorem lk_449 : (Jvm.Cond.instanceMethod ({ cls := "LawfulLots$Reader", name := "beginSort", desc := "(II)I" } : Jvm.MethodName)) ∈ gt := List.mem_filter.mpr ⟨in_2 (List.mem_of_getElem? (i := 209) rfl), rfl⟩
set_option maxRecDepth 10000 in
theorem lk_450 : (Jvm.Cond.code ({ cls := "LawfulLots$Reader", name := "beginSort", desc := "(II)I" } : Jvm.MethodName) prog_8_method_7_code (4 : Nat) (Option.some Jvm.ClassFile.FieldType.int)) ∈ gt := List.mem_filter.mpr ⟨in_2 (List.mem_of_getElem? (i := 210) rfl), rfl⟩
set_option maxRecDepth 10000 in
theorem lk_451 : (Jvm.Cond.methodLink "LawfulLots$Reader" (136 : Nat) ({ cls := "LawfulLots$Book", name := "toldOf", desc := "(I)I" } : Jvm.MethodName)) ∈ gt := List.mem_filter.mpr ⟨in_2 (List.mem_of_getElem? (i := 211) rfl), rfl⟩
set_option maxRecDepth 10000 in
theorem lk_452 : (Jvm.Cond.instanceMethod ({ cls := "LawfulLots$Book", name := "toldOf", desc := "(I)I" } : Jvm.MethodName)) ∈ gt := List.mem_filter.mpr ⟨in_2 (List.mem_of_getElem? (i := 212) rfl), rfl⟩
set_option maxRecDepth 10000 in
theorem lk_453 : (Jvm.Cond.selects "LawfulLots$Book" ({ cls := "LawfulLots$Book", name := "toldOf", desc := "(I)I" } : Jvm.MethodName) ({ cls := "LawfulLots$Book", name := "toldOf", desc := "(I)I" } : Jvm.MethodName)) ∈ gt := List.mem_filter.mpr ⟨in_2 (List.mem_of_getElem? (i := 213) rfl), rfl⟩
set_option maxRecDepth 10000 in
theorem lk_454 : (Jvm.Cond.code ({ cls := "LawfulLots$Book", name := "toldOf", desc := "(I)I" } : Jvm.MethodName) prog_3_method_5_code (2 : Nat) (Option.some Jvm.ClassFile.FieldType.int)) ∈ gt := List.mem_filter.mpr ⟨in_2 (List.mem_of_getElem? (i := 214) rfl), rfl⟩
set_option maxRecDepth 10000 in
theorem lk_455 : (Jvm.Cond.methodLink "LawfulLots$Reader" (139 : Nat) ({ cls := "LawfulLots$Book", name := "open", desc := "(I)V" } : Jvm.MethodName)) ∈ gt := List.mem_filter.mpr ⟨in_2 (List.mem_of_getElem? (i := 215) rfl), rfl⟩
set_option maxRecDepth 10000 in
theorem lk_456 : (Jvm.Cond.instanceMethod ({ cls := "LawfulLots$Book", name := "open", desc := "(I)V" } : Jvm.MethodName)) ∈ gt := List.mem_filter.mpr ⟨in_2 (List.mem_of_getElem? (i := 216) rfl), rfl⟩
set_option maxRecDepth 10000 in
theorem lk_457 : (Jvm.Cond.selects "LawfulLots$Book" ({ cls := "LawfulLots$Book", name := "open", desc := "(I)V" } : Jvm.MethodName) ({ cls := "LawfulLots$Book", name := "open", desc := "(I)V" } : Jvm.MethodName)) ∈ gt := List.mem_filter.mpr ⟨in_2 (List.mem_of_getElem? (i := 217) rfl), rfl⟩
set_option maxRecDepth 10000 in
theorem lk_458 : (Jvm.Cond.code ({ cls := "LawfulLots$Book", name := "open", desc := "(I)V" } : Jvm.MethodName) prog_3_method_9_code (2 : Nat) (Option.none : Option Jvm.ClassFile.FieldType)) ∈ gt := List.mem_filter.mpr ⟨in_2 (List.mem_of_getElem? (i := 218) rfl), rfl⟩
set_option maxRecDepth 10000 in
theorem lk_459 : (Jvm.Cond.methodLink "LawfulLots$Reader" (142 : Nat) ({ cls := "LawfulLots$Book", name := "addTold", desc := "(I)V" } : Jvm.MethodName)) ∈ gt := List.mem_filter.mpr ⟨in_2 (List.mem_of_getElem? (i := 219) rfl), rfl⟩
set_option maxRecDepth 10000 in
theorem lk_460 : (Jvm.Cond.instanceMethod ({ cls := "LawfulLots$Book", name := "addTold", desc := "(I)V" } : Jvm.MethodName)) ∈ gt := List.mem_filter.mpr ⟨in_2 (List.mem_of_getElem? (i := 220) rfl), rfl⟩
set_option maxRecDepth 10000 in
theorem lk_461 : (Jvm.Cond.selects "LawfulLots$Book" ({ cls := "LawfulLots$Book", name := "addTold", desc := "(I)V" } : Jvm.MethodName) ({ cls := "LawfulLots$Book", name := "addTold", desc := "(I)V" } : Jvm.MethodName)) ∈ gt := List.mem_filter.mpr ⟨in_2 (List.mem_of_getElem? (i := 221) rfl), rfl⟩
set_option maxRecDepth 10000 in
theorem lk_462 : (Jvm.Cond.code ({ cls := "LawfulLots$Book", name := "addTold", desc := "(I)V" } : Jvm.MethodName) prog_3_method_6_code (2 : Nat) (Option.none : Option Jvm.ClassFile.FieldType)) ∈ gt := List.mem_filter.mpr ⟨in_2 (List.mem_of_getElem? (i := 222) rfl), rfl⟩
set_option maxRecDepth 10000 in
theorem lk_463 : (Jvm.Cond.methodLink "LawfulLots$Reader" (110 : Nat) ({ cls := "LawfulLots$Reader", name := "endField", desc := "()I" } : Jvm.MethodName)) ∈ gt := List.mem_filter.mpr ⟨in_2 (List.mem_of_getElem? (i := 223) rfl), rfl⟩
set_option maxRecDepth 10000 in
theorem lk_465 : (Jvm.Cond.instanceMethod ({ cls := "LawfulLots$Reader", name := "endField", desc := "()I" } : Jvm.MethodName)) ∈ gt := List.mem_filter.mpr ⟨in_2 (List.mem_of_getElem? (i := 225) rfl), rfl⟩
set_option maxRecDepth 10000 in
theorem lk_466 : (Jvm.Cond.code ({ cls := "LawfulLots$Reader", name := "endField", desc := "()I" } : Jvm.MethodName) prog_8_method_8_code (1 : Nat) (Option.some Jvm.ClassFile.FieldType.int)) ∈ gt := List.mem_filter.mpr ⟨in_2 (List.mem_of_getElem? (i := 226) rfl), rfl⟩
set_option maxRecDepth 10000 in
theorem lk_467 : (Jvm.Cond.methodLink "LawfulLots$Reader" (145 : Nat) ({ cls := "LawfulLots$Book", name := "fieldNamed", desc := "(J)I" } : Jvm.MethodName)) ∈ gt := List.mem_filter.mpr ⟨in_2 (List.mem_of_getElem? (i := 227) rfl), rfl⟩
set_option maxRecDepth 10000 in
theorem lk_468 : (Jvm.Cond.instanceMethod ({ cls := "LawfulLots$Book", name := "fieldNamed", desc := "(J)I" } : Jvm.MethodName)) ∈ gt := List.mem_filter.mpr ⟨in_2 (List.mem_of_getElem? (i := 228) rfl), rfl⟩
set_option maxRecDepth 10000 in
theorem lk_469 : (Jvm.Cond.selects "LawfulLots$Book" ({ cls := "LawfulLots$Book", name := "fieldNamed", desc := "(J)I" } : Jvm.MethodName) ({ cls := "LawfulLots$Book", name := "fieldNamed", desc := "(J)I" } : Jvm.MethodName)) ∈ gt := List.mem_filter.mpr ⟨in_2 (List.mem_of_getElem? (i := 229) rfl), rfl⟩
set_option maxRecDepth 10000 in
theorem lk_470 : (Jvm.Cond.code ({ cls := "LawfulLots$Book", name := "fieldNamed", desc := "(J)I" } : Jvm.MethodName) prog_3_method_4_code (4 : Nat) (Option.some Jvm.ClassFile.FieldType.int)) ∈ gt := List.mem_filter.mpr ⟨in_2 (List.mem_of_getElem? (i := 230) rfl), rfl⟩
set_option maxRecDepth 10000 in
theorem lk_471 : (Jvm.Cond.methodLink "LawfulLots$Reader" (149 : Nat) ({ cls := "LawfulLots$Reader", name := "blame", desc := "(II)V" } : Jvm.MethodName)) ∈ gt := List.mem_filter.mpr ⟨in_2 (List.mem_of_getElem? (i := 231) rfl), rfl⟩
set_option maxRecDepth 10000 in
theorem lk_473 : (Jvm.Cond.instanceMethod ({ cls := "LawfulLots$Reader", name := "blame", desc := "(II)V" } : Jvm.MethodName)) ∈ gt := List.mem_filter.mpr ⟨in_2 (List.mem_of_getElem? (i := 233) rfl), rfl⟩
set_option maxRecDepth 10000 in
theorem lk_474 : (Jvm.Cond.code ({ cls := "LawfulLots$Reader", name := "blame", desc := "(II)V" } : Jvm.MethodName) prog_8_method_4_code (4 : Nat) (Option.none : Option Jvm.ClassFile.FieldType)) ∈ gt := List.mem_filter.mpr ⟨in_2 (List.mem_of_getElem? (i := 234) rfl), rfl⟩
set_option maxRecDepth 10000 in
theorem lk_475 : (Jvm.Cond.methodLink "LawfulLots$Reader" (153 : Nat) ({ cls := "LawfulLots$Book", name := "addField", desc := "(JII)V" } : Jvm.MethodName)) ∈ gt := List.mem_filter.mpr ⟨in_2 (List.mem_of_getElem? (i := 235) rfl), rfl⟩
set_option maxRecDepth 10000 in
theorem lk_476 : (Jvm.Cond.instanceMethod ({ cls := "LawfulLots$Book", name := "addField", desc := "(JII)V" } : Jvm.MethodName)) ∈ gt := List.mem_filter.mpr ⟨in_2 (List.mem_of_getElem? (i := 236) rfl), rfl⟩
set_option maxRecDepth 10000 in
theorem lk_477 : (Jvm.Cond.selects "LawfulLots$Book" ({ cls := "LawfulLots$Book", name := "addField", desc := "(JII)V" } : Jvm.MethodName) ({ cls := "LawfulLots$Book", name := "addField", desc := "(JII)V" } : Jvm.MethodName)) ∈ gt := List.mem_filter.mpr ⟨in_2 (List.mem_of_getElem? (i := 237) rfl), rfl⟩
set_option maxRecDepth 10000 in
theorem lk_478 : (Jvm.Cond.code ({ cls := "LawfulLots$Book", name := "addField", desc := "(JII)V" } : Jvm.MethodName) prog_3_method_3_code (5 : Nat) (Option.none : Option Jvm.ClassFile.FieldType)) ∈ gt := List.mem_filter.mpr ⟨in_2 (List.mem_of_getElem? (i := 238) rfl), rfl⟩
set_option maxRecDepth 10000 in
theorem lk_479 : (Jvm.Cond.methodLink "LawfulLots$Book" (59 : Nat) ({ cls := "java/lang/Math", name := "max", desc := "(II)I" } : Jvm.MethodName)) ∈ gt := List.mem_filter.mpr ⟨in_2 (List.mem_of_getElem? (i := 239) rfl), rfl⟩
set_option maxRecDepth 10000 in
theorem lk_480 : (Jvm.Cond.constant "LawfulLots$Book" (65 : Nat) (32769 : Int32)) ∈ gt := List.mem_filter.mpr ⟨in_3 (List.mem_of_getElem? (i := 0) rfl), rfl⟩
set_option maxRecDepth 10000 in
theorem lk_481 : (Jvm.Cond.methodLink "LawfulLots$Book" (66 : Nat) ({ cls := "java/lang/Math", name := "min", desc := "(II)I" } : Jvm.MethodName)) ∈ gt := List.mem_filter.mpr ⟨in_3 (List.mem_of_getElem? (i := 1) rfl), rfl⟩
set_option maxRecDepth 10000 in
theorem lk_482 : (Jvm.Cond.constant "LawfulLots$Reader" (160 : Nat) (32768 : Int32)) ∈ gt := List.mem_filter.mpr ⟨in_3 (List.mem_of_getElem? (i := 2) rfl), rfl⟩
set_option maxRecDepth 10000 in
theorem lk_483 : (Jvm.Cond.methodLink "LawfulLots$Reader" (114 : Nat) ({ cls := "LawfulLots$Reader", name := "weigh", desc := "()I" } : Jvm.MethodName)) ∈ gt := List.mem_filter.mpr ⟨in_3 (List.mem_of_getElem? (i := 3) rfl), rfl⟩
set_option maxRecDepth 10000 in
theorem lk_485 : (Jvm.Cond.instanceMethod ({ cls := "LawfulLots$Reader", name := "weigh", desc := "()I" } : Jvm.MethodName)) ∈ gt := List.mem_filter.mpr ⟨in_3 (List.mem_of_getElem? (i := 5) rfl), rfl⟩
set_option maxRecDepth 10000 in
theorem lk_486 : (Jvm.Cond.code ({ cls := "LawfulLots$Reader", name := "weigh", desc := "()I" } : Jvm.MethodName) prog_8_method_9_code (1 : Nat) (Option.some Jvm.ClassFile.FieldType.int)) ∈ gt := List.mem_filter.mpr ⟨in_3 (List.mem_of_getElem? (i := 6) rfl), rfl⟩
set_option maxRecDepth 10000 in
theorem lk_487 : (Jvm.Cond.methodLink "LawfulLots$Reader" (161 : Nat) ({ cls := "LawfulLots$Book", name := "setWeight", desc := "(II)V" } : Jvm.MethodName)) ∈ gt := List.mem_filter.mpr ⟨in_3 (List.mem_of_getElem? (i := 7) rfl), rfl⟩
set_option maxRecDepth 10000 in
theorem lk_488 : (Jvm.Cond.instanceMethod ({ cls := "LawfulLots$Book", name := "setWeight", desc := "(II)V" } : Jvm.MethodName)) ∈ gt := List.mem_filter.mpr ⟨in_3 (List.mem_of_getElem? (i := 8) rfl), rfl⟩
set_option maxRecDepth 10000 in
theorem lk_489 : (Jvm.Cond.selects "LawfulLots$Book" ({ cls := "LawfulLots$Book", name := "setWeight", desc := "(II)V" } : Jvm.MethodName) ({ cls := "LawfulLots$Book", name := "setWeight", desc := "(II)V" } : Jvm.MethodName)) ∈ gt := List.mem_filter.mpr ⟨in_3 (List.mem_of_getElem? (i := 9) rfl), rfl⟩
set_option maxRecDepth 10000 in
theorem lk_490 : (Jvm.Cond.code ({ cls := "LawfulLots$Book", name := "setWeight", desc := "(II)V" } : Jvm.MethodName) prog_3_method_8_code (3 : Nat) (Option.none : Option Jvm.ClassFile.FieldType)) ∈ gt := List.mem_filter.mpr ⟨in_3 (List.mem_of_getElem? (i := 10) rfl), rfl⟩
set_option maxRecDepth 10000 in
theorem lk_491 : (Jvm.Cond.methodLink "LawfulLots$Reader" (117 : Nat) ({ cls := "LawfulLots$Reader", name := "nameInCode", desc := "(I)I" } : Jvm.MethodName)) ∈ gt := List.mem_filter.mpr ⟨in_3 (List.mem_of_getElem? (i := 11) rfl), rfl⟩
set_option maxRecDepth 10000 in
theorem lk_493 : (Jvm.Cond.instanceMethod ({ cls := "LawfulLots$Reader", name := "nameInCode", desc := "(I)I" } : Jvm.MethodName)) ∈ gt := List.mem_filter.mpr ⟨in_3 (List.mem_of_getElem? (i := 13) rfl), rfl⟩
set_option maxRecDepth 10000 in
theorem lk_494 : (Jvm.Cond.code ({ cls := "LawfulLots$Reader", name := "nameInCode", desc := "(I)I" } : Jvm.MethodName) prog_8_method_12_code (3 : Nat) (Option.some Jvm.ClassFile.FieldType.int)) ∈ gt := List.mem_filter.mpr ⟨in_3 (List.mem_of_getElem? (i := 14) rfl), rfl⟩
set_option maxRecDepth 10000 in
theorem lk_495 : (Jvm.Cond.methodLink "LawfulLots$Reader" (177 : Nat) ({ cls := "java/lang/Math", name := "max", desc := "(II)I" } : Jvm.MethodName)) ∈ gt := List.mem_filter.mpr ⟨in_3 (List.mem_of_getElem? (i := 15) rfl), rfl⟩
set_option maxRecDepth 10000 in
theorem lk_496 : (Jvm.Cond.methodLink "LawfulLots$Reader" (167 : Nat) ({ cls := "LawfulLots$Book", name := "emit", desc := "(III)V" } : Jvm.MethodName)) ∈ gt := List.mem_filter.mpr ⟨in_3 (List.mem_of_getElem? (i := 16) rfl), rfl⟩
set_option maxRecDepth 10000 in
theorem lk_497 : (Jvm.Cond.instanceMethod ({ cls := "LawfulLots$Book", name := "emit", desc := "(III)V" } : Jvm.MethodName)) ∈ gt := List.mem_filter.mpr ⟨in_3 (List.mem_of_getElem? (i := 17) rfl), rfl⟩
set_option maxRecDepth 10000 in
theorem lk_498 : (Jvm.Cond.selects "LawfulLots$Book" ({ cls := "LawfulLots$Book", name := "emit", desc := "(III)V" } : Jvm.MethodName) ({ cls := "LawfulLots$Book", name := "emit", desc := "(III)V" } : Jvm.MethodName)) ∈ gt := List.mem_filter.mpr ⟨in_3 (List.mem_of_getElem? (i := 18) rfl), rfl⟩
set_option maxRecDepth 10000 in
theorem lk_499 : (Jvm.Cond.code ({ cls := "LawfulLots$Book", name := "emit", desc := "(III)V" } : Jvm.MethodName) prog_3_method_10_code (4 : Nat) (Option.none : Option Jvm.ClassFile.FieldType)) ∈ gt := List.mem_filter.mpr ⟨in_3 (List.mem_of_getElem? (i := 19) rfl), rfl⟩
set_option maxRecDepth 10000 in
theorem lk_500 : (Jvm.Cond.methodLink "LawfulLots$Reader" (120 : Nat) ({ cls := "LawfulLots$Reader", name := "goOnInBrackets", desc := "(I)I" } : Jvm.MethodName)) ∈ gt := List.mem_filter.mpr ⟨in_3 (List.mem_of_getElem? (i := 20) rfl), rfl⟩
set_option maxRecDepth 10000 in
theorem lk_502 : (Jvm.Cond.instanceMethod ({ cls := "LawfulLots$Reader", name := "goOnInBrackets", desc := "(I)I" } : Jvm.MethodName)) ∈ gt := List.mem_filter.mpr ⟨in_3 (List.mem_of_getElem? (i := 22) rfl), rfl⟩
set_option maxRecDepth 10000 in
theorem lk_503 : (Jvm.Cond.code ({ cls := "LawfulLots$Reader", name := "goOnInBrackets", desc := "(I)I" } : Jvm.MethodName) prog_8_method_13_code (2 : Nat) (Option.some Jvm.ClassFile.FieldType.int)) ∈ gt := List.mem_filter.mpr ⟨in_3 (List.mem_of_getElem? (i := 23) rfl), rfl⟩
set_option maxRecDepth 10000 in
theorem lk_504 : (Jvm.Cond.methodLink "LawfulLots$Reader" (182 : Nat) ({ cls := "LawfulLots$Reader", name := "join", desc := "(II)I" } : Jvm.MethodName)) ∈ gt := List.mem_filter.mpr ⟨in_3 (List.mem_of_getElem? (i := 24) rfl), rfl⟩
set_option maxRecDepth 10000 in
theorem lk_506 : (Jvm.Cond.instanceMethod ({ cls := "LawfulLots$Reader", name := "join", desc := "(II)I" } : Jvm.MethodName)) ∈ gt := List.mem_filter.mpr ⟨in_3 (List.mem_of_getElem? (i := 26) rfl), rfl⟩
set_option maxRecDepth 10000 in
theorem lk_507 : (Jvm.Cond.code ({ cls := "LawfulLots$Reader", name := "join", desc := "(II)I" } : Jvm.MethodName) prog_8_method_15_code (3 : Nat) (Option.some Jvm.ClassFile.FieldType.int)) ∈ gt := List.mem_filter.mpr ⟨in_3 (List.mem_of_getElem? (i := 27) rfl), rfl⟩
set_option maxRecDepth 10000 in
theorem lk_508 : (Jvm.Cond.methodLink "LawfulLots$Reader" (194 : Nat) ({ cls := "LawfulLots$Reader", name := "tightness", desc := "(I)I" } : Jvm.MethodName)) ∈ gt := List.mem_filter.mpr ⟨in_3 (List.mem_of_getElem? (i := 28) rfl), rfl⟩
set_option maxRecDepth 10000 in
theorem lk_509 : (Jvm.Cond.static ({ cls := "LawfulLots$Reader", name := "tightness", desc := "(I)I" } : Jvm.MethodName)) ∈ gt := List.mem_filter.mpr ⟨in_3 (List.mem_of_getElem? (i := 29) rfl), rfl⟩
set_option maxRecDepth 10000 in
theorem lk_510 : (Jvm.Cond.code ({ cls := "LawfulLots$Reader", name := "tightness", desc := "(I)I" } : Jvm.MethodName) prog_8_method_21_code (1 : Nat) (Option.some Jvm.ClassFile.FieldType.int)) ∈ gt := List.mem_filter.mpr ⟨in_3 (List.mem_of_getElem? (i := 30) rfl), rfl⟩
set_option maxRecDepth 10000 in
theorem lk_511 : (Jvm.Cond.methodLink "LawfulLots$Reader" (191 : Nat) ({ cls := "LawfulLots$Reader", name := "release", desc := "(I)V" } : Jvm.MethodName)) ∈ gt := List.mem_filter.mpr ⟨in_3 (List.mem_of_getElem? (i := 31) rfl), rfl⟩
set_option maxRecDepth 10000 in
theorem lk_513 : (Jvm.Cond.instanceMethod ({ cls := "LawfulLots$Reader", name := "release", desc := "(I)V" } : Jvm.MethodName)) ∈ gt := List.mem_filter.mpr ⟨in_3 (List.mem_of_getElem? (i := 33) rfl), rfl⟩
set_option maxRecDepth 10000 in
theorem lk_514 : (Jvm.Cond.code ({ cls := "LawfulLots$Reader", name := "release", desc := "(I)V" } : Jvm.MethodName) prog_8_method_20_code (3 : Nat) (Option.none : Option Jvm.ClassFile.FieldType)) ∈ gt := List.mem_filter.mpr ⟨in_3 (List.mem_of_getElem? (i := 34) rfl), rfl⟩
set_option maxRecDepth 10000 in
theorem lk_515 : (Jvm.Cond.methodLink "LawfulLots$Reader" (174 : Nat) ({ cls := "LawfulLots$Reader", name := "lastWaiting", desc := "()I" } : Jvm.MethodName)) ∈ gt := List.mem_filter.mpr ⟨in_3 (List.mem_of_getElem? (i := 35) rfl), rfl⟩
set_option maxRecDepth 10000 in
theorem lk_517 : (Jvm.Cond.instanceMethod ({ cls := "LawfulLots$Reader", name := "lastWaiting", desc := "()I" } : Jvm.MethodName)) ∈ gt := List.mem_filter.mpr ⟨in_3 (List.mem_of_getElem? (i := 37) rfl), rfl⟩
set_option maxRecDepth 10000 in
theorem lk_518 : (Jvm.Cond.code ({ cls := "LawfulLots$Reader", name := "lastWaiting", desc := "()I" } : Jvm.MethodName) prog_8_method_19_code (1 : Nat) (Option.some Jvm.ClassFile.FieldType.int)) ∈ gt := List.mem_filter.mpr ⟨in_3 (List.mem_of_getElem? (i := 38) rfl), rfl⟩
set_option maxRecDepth 10000 in
theorem lk_519 : (Jvm.Cond.methodLink "LawfulLots$Reader" (171 : Nat) ({ cls := "LawfulLots$Reader", name := "await", desc := "(I)V" } : Jvm.MethodName)) ∈ gt := List.mem_filter.mpr ⟨in_3 (List.mem_of_getElem? (i := 39) rfl), rfl⟩
set_option maxRecDepth 10000 in
theorem lk_521 : (Jvm.Cond.instanceMethod ({ cls := "LawfulLots$Reader", name := "await", desc := "(I)V" } : Jvm.MethodName)) ∈ gt := List.mem_filter.mpr ⟨in_3 (List.mem_of_getElem? (i := 41) rfl), rfl⟩
set_option maxRecDepth 10000 in
theorem lk_522 : (Jvm.Cond.code ({ cls := "LawfulLots$Reader", name := "await", desc := "(I)V" } : Jvm.MethodName) prog_8_method_18_code (2 : Nat) (Option.none : Option Jvm.ClassFile.FieldType)) ∈ gt := List.mem_filter.mpr ⟨in_3 (List.mem_of_getElem? (i := 42) rfl), rfl⟩
set_option maxRecDepth 10000 in
theorem lk_523 : (Jvm.Cond.methodLink "LawfulLots$Reader" (185 : Nat) ({ cls := "LawfulLots$Reader", name := "closeBracket", desc := "()I" } : Jvm.MethodName)) ∈ gt := List.mem_filter.mpr ⟨in_3 (List.mem_of_getElem? (i := 43) rfl), rfl⟩
set_option maxRecDepth 10000 in
theorem lk_525 : (Jvm.Cond.instanceMethod ({ cls := "LawfulLots$Reader", name := "closeBracket", desc := "()I" } : Jvm.MethodName)) ∈ gt := List.mem_filter.mpr ⟨in_3 (List.mem_of_getElem? (i := 45) rfl), rfl⟩
set_option maxRecDepth 10000 in
theorem lk_526 : (Jvm.Cond.code ({ cls := "LawfulLots$Reader", name := "closeBracket", desc := "()I" } : Jvm.MethodName) prog_8_method_16_code (1 : Nat) (Option.some Jvm.ClassFile.FieldType.int)) ∈ gt := List.mem_filter.mpr ⟨in_3 (List.mem_of_getElem? (i := 46) rfl), rfl⟩
set_option maxRecDepth 10000 in
theorem lk_527 : (Jvm.Cond.methodLink "LawfulLots$Reader" (123 : Nat) ({ cls := "LawfulLots$Reader", name := "goOnBehindExpression", desc := "(I)I" } : Jvm.MethodName)) ∈ gt := List.mem_filter.mpr ⟨in_3 (List.mem_of_getElem? (i := 47) rfl), rfl⟩
set_option maxRecDepth 10000 in
theorem lk_529 : (Jvm.Cond.instanceMethod ({ cls := "LawfulLots$Reader", name := "goOnBehindExpression", desc := "(I)I" } : Jvm.MethodName)) ∈ gt := List.mem_filter.mpr ⟨in_3 (List.mem_of_getElem? (i := 49) rfl), rfl⟩
set_option maxRecDepth 10000 in
theorem lk_530 : (Jvm.Cond.code ({ cls := "LawfulLots$Reader", name := "goOnBehindExpression", desc := "(I)I" } : Jvm.MethodName) prog_8_method_14_code (3 : Nat) (Option.some Jvm.ClassFile.FieldType.int)) ∈ gt := List.mem_filter.mpr ⟨in_3 (List.mem_of_getElem? (i := 50) rfl), rfl⟩
set_option maxRecDepth 10000 in
theorem lk_531 : (Jvm.Cond.methodLink "LawfulLots$Reader" (188 : Nat) ({ cls := "LawfulLots$Reader", name := "beginShareCondition", desc := "()I" } : Jvm.MethodName)) ∈ gt := List.mem_filter.mpr ⟨in_3 (List.mem_of_getElem? (i := 51) rfl), rfl⟩
set_option maxRecDepth 10000 in
theorem lk_533 : (Jvm.Cond.instanceMethod ({ cls := "LawfulLots$Reader", name := "beginShareCondition", desc := "()I" } : Jvm.MethodName)) ∈ gt := List.mem_filter.mpr ⟨in_3 (List.mem_of_getElem? (i := 53) rfl), rfl⟩
set_option maxRecDepth 10000 in
theorem lk_534 : (Jvm.Cond.code ({ cls := "LawfulLots$Reader", name := "beginShareCondition", desc := "()I" } : Jvm.MethodName) prog_8_method_17_code (1 : Nat) (Option.some Jvm.ClassFile.FieldType.int)) ∈ gt := List.mem_filter.mpr ⟨in_3 (List.mem_of_getElem? (i := 54) rfl), rfl⟩
set_option maxRecDepth 10000 in
theorem lk_535 : (Jvm.Cond.methodLink "LawfulLots$Reader" (126 : Nat) ({ cls := "LawfulLots$Reader", name := "goOnAtUnit", desc := "(I)I" } : Jvm.MethodName)) ∈ gt := List.mem_filter.mpr ⟨in_3 (List.mem_of_getElem? (i := 55) rfl), rfl⟩
set_option maxRecDepth 10000 in
theorem lk_537 : (Jvm.Cond.instanceMethod ({ cls := "LawfulLots$Reader", name := "goOnAtUnit", desc := "(I)I" } : Jvm.MethodName)) ∈ gt := List.mem_filter.mpr ⟨in_3 (List.mem_of_getElem? (i := 57) rfl), rfl⟩
set_option maxRecDepth 10000 in
theorem lk_538 : (Jvm.Cond.code ({ cls := "LawfulLots$Reader", name := "goOnAtUnit", desc := "(I)I" } : Jvm.MethodName) prog_8_method_10_code (2 : Nat) (Option.some Jvm.ClassFile.FieldType.int)) ∈ gt := List.mem_filter.mpr ⟨in_3 (List.mem_of_getElem? (i := 58) rfl), rfl⟩
set_option maxRecDepth 10000 in
theorem lk_539 : (Jvm.Cond.methodLink "LawfulLots$Reader" (164 : Nat) ({ cls := "LawfulLots$Reader", name := "turnLiteral", desc := "()I" } : Jvm.MethodName)) ∈ gt := List.mem_filter.mpr ⟨in_3 (List.mem_of_getElem? (i := 59) rfl), rfl⟩
set_option maxRecDepth 10000 in
theorem lk_541 : (Jvm.Cond.instanceMethod ({ cls := "LawfulLots$Reader", name := "turnLiteral", desc := "()I" } : Jvm.MethodName)) ∈ gt := List.mem_filter.mpr ⟨in_3 (List.mem_of_getElem? (i := 61) rfl), rfl⟩
set_option maxRecDepth 10000 in
theorem lk_542 : (Jvm.Cond.code ({ cls := "LawfulLots$Reader", name := "turnLiteral", desc := "()I" } : Jvm.MethodName) prog_8_method_11_code (1 : Nat) (Option.some Jvm.ClassFile.FieldType.int)) ∈ gt := List.mem_filter.mpr ⟨in_3 (List.mem_of_getElem? (i := 62) rfl), rfl⟩
set_option maxRecDepth 10000 in
theorem lk_543 : (Jvm.Cond.methodLink "LawfulLots$Reader" (88 : Nat) ({ cls := "LawfulLots$Reader", name := "refuse", desc := "(I)V" } : Jvm.MethodName)) ∈ gt := List.mem_filter.mpr ⟨in_3 (List.mem_of_getElem? (i := 63) rfl), rfl⟩
set_option maxRecDepth 10000 in
theorem lk_545 : (Jvm.Cond.instanceMethod ({ cls := "LawfulLots$Reader", name := "refuse", desc := "(I)V" } : Jvm.MethodName)) ∈ gt := List.mem_filter.mpr ⟨in_3 (List.mem_of_getElem? (i := 65) rfl), rfl⟩
set_option maxRecDepth 10000 in
theorem lk_546 : (Jvm.Cond.code ({ cls := "LawfulLots$Reader", name := "refuse", desc := "(I)V" } : Jvm.MethodName) prog_8_method_3_code (2 : Nat) (Option.none : Option Jvm.ClassFile.FieldType)) ∈ gt := List.mem_filter.mpr ⟨in_3 (List.mem_of_getElem? (i := 66) rfl), rfl⟩
set_option maxRecDepth 10000 in
theorem lk_547 : (Jvm.Cond.methodLink "LawfulLots$Reader" (92 : Nat) ({ cls := "LawfulLots$Scanner", name := "advance", desc := "()V" } : Jvm.MethodName)) ∈ gt := List.mem_filter.mpr ⟨in_3 (List.mem_of_getElem? (i := 67) rfl), rfl⟩
set_option maxRecDepth 10000 in
theorem lk_548 : (Jvm.Cond.methodLink "LawfulLots$Reader" (95 : Nat) ({ cls := "LawfulLots$Book", name := "setStrides", desc := "()V" } : Jvm.MethodName)) ∈ gt := List.mem_filter.mpr ⟨in_3 (List.mem_of_getElem? (i := 68) rfl), rfl⟩
set_option maxRecDepth 10000 in
theorem lk_549 : (Jvm.Cond.instanceMethod ({ cls := "LawfulLots$Book", name := "setStrides", desc := "()V" } : Jvm.MethodName)) ∈ gt := List.mem_filter.mpr ⟨in_3 (List.mem_of_getElem? (i := 69) rfl), rfl⟩
set_option maxRecDepth 10000 in
theorem lk_550 : (Jvm.Cond.selects "LawfulLots$Book" ({ cls := "LawfulLots$Book", name := "setStrides", desc := "()V" } : Jvm.MethodName) ({ cls := "LawfulLots$Book", name := "setStrides", desc := "()V" } : Jvm.MethodName)) ∈ gt := List.mem_filter.mpr ⟨in_3 (List.mem_of_getElem? (i := 70) rfl), rfl⟩
set_option maxRecDepth 10000 in
theorem lk_551 : (Jvm.Cond.code ({ cls := "LawfulLots$Book", name := "setStrides", desc := "()V" } : Jvm.MethodName) prog_3_method_13_code (3 : Nat) (Option.none : Option Jvm.ClassFile.FieldType)) ∈ gt := List.mem_filter.mpr ⟨in_3 (List.mem_of_getElem? (i := 71) rfl), rfl⟩
set_option maxRecDepth 10000 in
theorem lk_552 : (Jvm.Cond.methodLink "LawfulLots" (68 : Nat) ({ cls := "LawfulLots$Chart", name := "exchange", desc := "(LLawfulLots$Book;)LLawfulLots$Book;" } : Jvm.MethodName)) ∈ gt := List.mem_filter.mpr ⟨in_3 (List.mem_of_getElem? (i := 72) rfl), rfl⟩
set_option maxRecDepth 10000 in
theorem lk_553 : (Jvm.Cond.instanceMethod ({ cls := "LawfulLots$Chart", name := "exchange", desc := "(LLawfulLots$Book;)LLawfulLots$Book;" } : Jvm.MethodName)) ∈ gt := List.mem_filter.mpr ⟨in_3 (List.mem_of_getElem? (i := 73) rfl), rfl⟩
set_option maxRecDepth 10000 in
theorem lk_554 : (Jvm.Cond.selects "LawfulLots$Chart" ({ cls := "LawfulLots$Chart", name := "exchange", desc := "(LLawfulLots$Book;)LLawfulLots$Book;" } : Jvm.MethodName) ({ cls := "LawfulLots$Chart", name := "exchange", desc := "(LLawfulLots$Book;)LLawfulLots$Book;" } : Jvm.MethodName)) ∈ gt := List.mem_filter.mpr ⟨in_3 (List.mem_of_getElem? (i := 74) rfl), rfl⟩
set_option maxRecDepth 10000 in
theorem lk_555 : (Jvm.Cond.code ({ cls := "LawfulLots$Chart", name := "exchange", desc := "(LLawfulLots$Book;)LLawfulLots$Book;" } : Jvm.MethodName) prog_5_method_2_code (3 : Nat) (Option.some (Jvm.ClassFile.FieldType.object "LawfulLots$Book"))) ∈ gt := List.mem_filter.mpr ⟨in_3 (List.mem_of_getElem? (i := 75) rfl), rfl⟩
set_option maxRecDepth 10000 in
theorem lk_556 : (Jvm.Cond.methodLink "LawfulLots$Chart" (76 : Nat) ({ cls := "LawfulLots$Book", name := "toldOf", desc := "(I)I" } : Jvm.MethodName)) ∈ gt := List.mem_filter.mpr ⟨in_3 (List.mem_of_getElem? (i := 76) rfl), rfl⟩
set_option maxRecDepth 10000 in
theorem lk_557 : (Jvm.Cond.methodLink "LawfulLots" (75 : Nat) ({ cls := "LawfulLots", name := "forgetLawful", desc := "()V" } : Jvm.MethodName)) ∈ gt := List.mem_filter.mpr ⟨in_3 (List.mem_of_getElem? (i := 77) rfl), rfl⟩
set_option maxRecDepth 10000 in
theorem lk_559 : (Jvm.Cond.instanceMethod ({ cls := "LawfulLots", name := "forgetLawful", desc := "()V" } : Jvm.MethodName)) ∈ gt := List.mem_filter.mpr ⟨in_3 (List.mem_of_getElem? (i := 79) rfl), rfl⟩
set_option maxRecDepth 10000 in
theorem lk_560 : (Jvm.Cond.code ({ cls := "LawfulLots", name := "forgetLawful", desc := "()V" } : Jvm.MethodName) prog_1_method_6_code (1 : Nat) (Option.none : Option Jvm.ClassFile.FieldType)) ∈ gt := List.mem_filter.mpr ⟨in_3 (List.mem_of_getElem? (i := 80) rfl), rfl⟩
set_option maxRecDepth 10000 in
theorem lk_561 : (Jvm.Cond.methodLink "LawfulLots" (78 : Nat) ({ cls := "LawfulLots$BinTable", name := "forget", desc := "()V" } : Jvm.MethodName)) ∈ gt := List.mem_filter.mpr ⟨in_3 (List.mem_of_getElem? (i := 81) rfl), rfl⟩
set_option maxRecDepth 10000 in
theorem lk_562 : (Jvm.Cond.instanceMethod ({ cls := "LawfulLots$BinTable", name := "forget", desc := "()V" } : Jvm.MethodName)) ∈ gt := List.mem_filter.mpr ⟨in_3 (List.mem_of_getElem? (i := 82) rfl), rfl⟩
set_option maxRecDepth 10000 in
theorem lk_563 : (Jvm.Cond.selects "LawfulLots$BinTable" ({ cls := "LawfulLots$BinTable", name := "forget", desc := "()V" } : Jvm.MethodName) ({ cls := "LawfulLots$BinTable", name := "forget", desc := "()V" } : Jvm.MethodName)) ∈ gt := List.mem_filter.mpr ⟨in_3 (List.mem_of_getElem? (i := 83) rfl), rfl⟩
set_option maxRecDepth 10000 in
theorem lk_564 : (Jvm.Cond.code ({ cls := "LawfulLots$BinTable", name := "forget", desc := "()V" } : Jvm.MethodName) prog_2_method_2_code (1 : Nat) (Option.none : Option Jvm.ClassFile.FieldType)) ∈ gt := List.mem_filter.mpr ⟨in_3 (List.mem_of_getElem? (i := 84) rfl), rfl⟩
set_option maxRecDepth 10000 in
theorem lk_565 : (Jvm.Cond.methodLink "LawfulLotsLaw" (28 : Nat) ({ cls := "LawfulLots", name := "place", desc := "()I" } : Jvm.MethodName)) ∈ gt := List.mem_filter.mpr ⟨in_3 (List.mem_of_getElem? (i := 85) rfl), rfl⟩
set_option maxRecDepth 10000 in
theorem lk_566 : (Jvm.Cond.instanceMethod ({ cls := "LawfulLots", name := "place", desc := "()I" } : Jvm.MethodName)) ∈ gt := List.mem_filter.mpr ⟨in_3 (List.mem_of_getElem? (i := 86) rfl), rfl⟩
set_option maxRecDepth 10000 in
theorem lk_567 : (Jvm.Cond.selects "LawfulLots" ({ cls := "LawfulLots", name := "place", desc := "()I" } : Jvm.MethodName) ({ cls := "LawfulLots", name := "place", desc := "()I" } : Jvm.MethodName)) ∈ gt := List.mem_filter.mpr ⟨in_3 (List.mem_of_getElem? (i := 87) rfl), rfl⟩
set_option maxRecDepth 10000 in
theorem lk_568 : (Jvm.Cond.code ({ cls := "LawfulLots", name := "place", desc := "()I" } : Jvm.MethodName) prog_1_method_7_code (1 : Nat) (Option.some Jvm.ClassFile.FieldType.int)) ∈ gt := List.mem_filter.mpr ⟨in_3 (List.mem_of_getElem? (i := 88) rfl), rfl⟩
set_option maxRecDepth 10000 in
theorem lk_569 : (Jvm.Cond.methodLink "LawfulLotsLaw" (32 : Nat) ({ cls := "LawfulLots", name := "turn", desc := "(IZ)Z" } : Jvm.MethodName)) ∈ gt := List.mem_filter.mpr ⟨in_3 (List.mem_of_getElem? (i := 89) rfl), rfl⟩
set_option maxRecDepth 10000 in
theorem lk_570 : (Jvm.Cond.instanceMethod ({ cls := "LawfulLots", name := "turn", desc := "(IZ)Z" } : Jvm.MethodName)) ∈ gt := List.mem_filter.mpr ⟨in_3 (List.mem_of_getElem? (i := 90) rfl), rfl⟩
set_option maxRecDepth 10000 in
theorem lk_571 : (Jvm.Cond.selects "LawfulLots" ({ cls := "LawfulLots", name := "turn", desc := "(IZ)Z" } : Jvm.MethodName) ({ cls := "LawfulLots", name := "turn", desc := "(IZ)Z" } : Jvm.MethodName)) ∈ gt := List.mem_filter.mpr ⟨in_3 (List.mem_of_getElem? (i := 91) rfl), rfl⟩
set_option maxRecDepth 10000 in
theorem lk_572 : (Jvm.Cond.code ({ cls := "LawfulLots", name := "turn", desc := "(IZ)Z" } : Jvm.MethodName) prog_1_method_8_code (3 : Nat) (Option.some Jvm.ClassFile.FieldType.boolean)) ∈ gt := List.mem_filter.mpr ⟨in_3 (List.mem_of_getElem? (i := 92) rfl), rfl⟩
set_option maxRecDepth 10000 in
theorem lk_573 : (Jvm.Cond.methodLink "LawfulLots" (88 : Nat) ({ cls := "LawfulLots$Book", name := "has", desc := "(II)Z" } : Jvm.MethodName)) ∈ gt := List.mem_filter.mpr ⟨in_3 (List.mem_of_getElem? (i := 93) rfl), rfl⟩
set_option maxRecDepth 10000 in
theorem lk_574 : (Jvm.Cond.instanceMethod ({ cls := "LawfulLots$Book", name := "has", desc := "(II)Z" } : Jvm.MethodName)) ∈ gt := List.mem_filter.mpr ⟨in_3 (List.mem_of_getElem? (i := 94) rfl), rfl⟩
set_option maxRecDepth 10000 in
theorem lk_575 : (Jvm.Cond.selects "LawfulLots$Book" ({ cls := "LawfulLots$Book", name := "has", desc := "(II)Z" } : Jvm.MethodName) ({ cls := "LawfulLots$Book", name := "has", desc := "(II)Z" } : Jvm.MethodName)) ∈ gt := List.mem_filter.mpr ⟨in_3 (List.mem_of_getElem? (i := 95) rfl), rfl⟩
set_option maxRecDepth 10000 in
theorem lk_576 : (Jvm.Cond.code ({ cls := "LawfulLots$Book", name := "has", desc := "(II)Z" } : Jvm.MethodName) prog_3_method_7_code (3 : Nat) (Option.some Jvm.ClassFile.FieldType.boolean)) ∈ gt := List.mem_filter.mpr ⟨in_3 (List.mem_of_getElem? (i := 96) rfl), rfl⟩
set_option maxRecDepth 10000 in
theorem lk_577 : (Jvm.Cond.methodLink "LawfulLots$Book" (69 : Nat) ({ cls := "LawfulLots$Book", name := "toldOf", desc := "(I)I" } : Jvm.MethodName)) ∈ gt := List.mem_filter.mpr ⟨in_3 (List.mem_of_getElem? (i := 97) rfl), rfl⟩
set_option maxRecDepth 10000 in
theorem lk_578 : (Jvm.Cond.methodLink "LawfulLots" (94 : Nat) ({ cls := "LawfulLots$Chart", name := "isOn", desc := "(I)Z" } : Jvm.MethodName)) ∈ gt := List.mem_filter.mpr ⟨in_3 (List.mem_of_getElem? (i := 98) rfl), rfl⟩
set_option maxRecDepth 10000 in
theorem lk_579 : (Jvm.Cond.instanceMethod ({ cls := "LawfulLots$Chart", name := "isOn", desc := "(I)Z" } : Jvm.MethodName)) ∈ gt := List.mem_filter.mpr ⟨in_3 (List.mem_of_getElem? (i := 99) rfl), rfl⟩
set_option maxRecDepth 10000 in
theorem lk_580 : (Jvm.Cond.selects "LawfulLots$Chart" ({ cls := "LawfulLots$Chart", name := "isOn", desc := "(I)Z" } : Jvm.MethodName) ({ cls := "LawfulLots$Chart", name := "isOn", desc := "(I)Z" } : Jvm.MethodName)) ∈ gt := List.mem_filter.mpr ⟨in_3 (List.mem_of_getElem? (i := 100) rfl), rfl⟩
set_option maxRecDepth 10000 in
theorem lk_581 : (Jvm.Cond.code ({ cls := "LawfulLots$Chart", name := "isOn", desc := "(I)Z" } : Jvm.MethodName) prog_5_method_3_code (2 : Nat) (Option.some Jvm.ClassFile.FieldType.boolean)) ∈ gt := List.mem_filter.mpr ⟨in_3 (List.mem_of_getElem? (i := 101) rfl), rfl⟩
set_option maxRecDepth 10000 in
theorem lk_582 : (Jvm.Cond.methodLink "LawfulLots" (98 : Nat) ({ cls := "LawfulLots$Chart", name := "swapLaw", desc := "(I)V" } : Jvm.MethodName)) ∈ gt := List.mem_filter.mpr ⟨in_3 (List.mem_of_getElem? (i := 102) rfl), rfl⟩
set_option maxRecDepth 10000 in
theorem lk_583 : (Jvm.Cond.instanceMethod ({ cls := "LawfulLots$Chart", name := "swapLaw", desc := "(I)V" } : Jvm.MethodName)) ∈ gt := List.mem_filter.mpr ⟨in_3 (List.mem_of_getElem? (i := 103) rfl), rfl⟩
set_option maxRecDepth 10000 in
theorem lk_584 : (Jvm.Cond.selects "LawfulLots$Chart" ({ cls := "LawfulLots$Chart", name := "swapLaw", desc := "(I)V" } : Jvm.MethodName) ({ cls := "LawfulLots$Chart", name := "swapLaw", desc := "(I)V" } : Jvm.MethodName)) ∈ gt := List.mem_filter.mpr ⟨in_3 (List.mem_of_getElem? (i := 104) rfl), rfl⟩
set_option maxRecDepth 10000 in
theorem lk_585 : (Jvm.Cond.code ({ cls := "LawfulLots$Chart", name := "swapLaw", desc := "(I)V" } : Jvm.MethodName) prog_5_method_4_code (2 : Nat) (Option.none : Option Jvm.ClassFile.FieldType)) ∈ gt := List.mem_filter.mpr ⟨in_3 (List.mem_of_getElem? (i := 105) rfl), rfl⟩
set_option maxRecDepth 10000 in
theorem lk_586 : (Jvm.Cond.methodLink "LawfulLotsLaw" (37 : Nat) ({ cls := "LawfulLots", name := "lawful", desc := "()I" } : Jvm.MethodName)) ∈ gt := List.mem_filter.mpr ⟨in_3 (List.mem_of_getElem? (i := 106) rfl), rfl⟩
set_option maxRecDepth 10000 in
theorem lk_587 : (Jvm.Cond.instanceMethod ({ cls := "LawfulLots", name := "lawful", desc := "()I" } : Jvm.MethodName)) ∈ gt := List.mem_filter.mpr ⟨in_3 (List.mem_of_getElem? (i := 107) rfl), rfl⟩
set_option maxRecDepth 10000 in
theorem lk_588 : (Jvm.Cond.selects "LawfulLots" ({ cls := "LawfulLots", name := "lawful", desc := "()I" } : Jvm.MethodName) ({ cls := "LawfulLots", name := "lawful", desc := "()I" } : Jvm.MethodName)) ∈ gt := List.mem_filter.mpr ⟨in_3 (List.mem_of_getElem? (i := 108) rfl), rfl⟩
set_option maxRecDepth 10000 in
theorem lk_589 : (Jvm.Cond.code ({ cls := "LawfulLots", name := "lawful", desc := "()I" } : Jvm.MethodName) prog_1_method_9_code (1 : Nat) (Option.some Jvm.ClassFile.FieldType.int)) ∈ gt := List.mem_filter.mpr ⟨in_3 (List.mem_of_getElem? (i := 109) rfl), rfl⟩
set_option maxRecDepth 10000 in
theorem lk_590 : (Jvm.Cond.methodLink "LawfulLots" (101 : Nat) ({ cls := "LawfulLots$Chart", name := "refresh", desc := "()V" } : Jvm.MethodName)) ∈ gt := List.mem_filter.mpr ⟨in_3 (List.mem_of_getElem? (i := 110) rfl), rfl⟩
set_option maxRecDepth 10000 in
theorem lk_591 : (Jvm.Cond.instanceMethod ({ cls := "LawfulLots$Chart", name := "refresh", desc := "()V" } : Jvm.MethodName)) ∈ gt := List.mem_filter.mpr ⟨in_3 (List.mem_of_getElem? (i := 111) rfl), rfl⟩
set_option maxRecDepth 10000 in
theorem lk_592 : (Jvm.Cond.selects "LawfulLots$Chart" ({ cls := "LawfulLots$Chart", name := "refresh", desc := "()V" } : Jvm.MethodName) ({ cls := "LawfulLots$Chart", name := "refresh", desc := "()V" } : Jvm.MethodName)) ∈ gt := List.mem_filter.mpr ⟨in_3 (List.mem_of_getElem? (i := 112) rfl), rfl⟩
set_option maxRecDepth 10000 in
theorem lk_593 : (Jvm.Cond.code ({ cls := "LawfulLots$Chart", name := "refresh", desc := "()V" } : Jvm.MethodName) prog_5_method_5_code (1 : Nat) (Option.none : Option Jvm.ClassFile.FieldType)) ∈ gt := List.mem_filter.mpr ⟨in_3 (List.mem_of_getElem? (i := 113) rfl), rfl⟩
set_option maxRecDepth 10000 in
theorem lk_594 : (Jvm.Cond.methodLink "LawfulLots$Chart" (80 : Nat) ({ cls := "LawfulLots$Chart", name := "markLaws", desc := "()V" } : Jvm.MethodName)) ∈ gt := List.mem_filter.mpr ⟨in_3 (List.mem_of_getElem? (i := 114) rfl), rfl⟩
set_option maxRecDepth 10000 in
theorem lk_596 : (Jvm.Cond.instanceMethod ({ cls := "LawfulLots$Chart", name := "markLaws", desc := "()V" } : Jvm.MethodName)) ∈ gt := List.mem_filter.mpr ⟨in_3 (List.mem_of_getElem? (i := 116) rfl), rfl⟩
set_option maxRecDepth 10000 in
theorem lk_597 : (Jvm.Cond.code ({ cls := "LawfulLots$Chart", name := "markLaws", desc := "()V" } : Jvm.MethodName) prog_5_method_6_code (2 : Nat) (Option.none : Option Jvm.ClassFile.FieldType)) ∈ gt := List.mem_filter.mpr ⟨in_3 (List.mem_of_getElem? (i := 117) rfl), rfl⟩
set_option maxRecDepth 10000 in
theorem lk_598 : (Jvm.Cond.methodLink "LawfulLots$Chart" (95 : Nat) ({ cls := "LawfulLots$Chart", name := "roomFor", desc := "(I)I" } : Jvm.MethodName)) ∈ gt := List.mem_filter.mpr ⟨in_3 (List.mem_of_getElem? (i := 118) rfl), rfl⟩
set_option maxRecDepth 10000 in
theorem lk_599 : (Jvm.Cond.static ({ cls := "LawfulLots$Chart", name := "roomFor", desc := "(I)I" } : Jvm.MethodName)) ∈ gt := List.mem_filter.mpr ⟨in_3 (List.mem_of_getElem? (i := 119) rfl), rfl⟩
set_option maxRecDepth 10000 in
theorem lk_600 : (Jvm.Cond.code ({ cls := "LawfulLots$Chart", name := "roomFor", desc := "(I)I" } : Jvm.MethodName) prog_5_method_7_code (2 : Nat) (Option.some Jvm.ClassFile.FieldType.int)) ∈ gt := List.mem_filter.mpr ⟨in_3 (List.mem_of_getElem? (i := 120) rfl), rfl⟩
set_option maxRecDepth 10000 in
theorem lk_601 : (Jvm.Cond.constant "LawfulLots$Chart" (111 : Nat) (32768 : Int32)) ∈ gt := List.mem_filter.mpr ⟨in_3 (List.mem_of_getElem? (i := 121) rfl), rfl⟩
set_option maxRecDepth 10000 in
theorem lk_602 : (Jvm.Cond.methodLink "LawfulLots$Chart" (98 : Nat) ({ cls := "java/util/Arrays", name := "fill", desc := "([II)V" } : Jvm.MethodName)) ∈ gt := List.mem_filter.mpr ⟨in_3 (List.mem_of_getElem? (i := 122) rfl), rfl⟩
set_option maxRecDepth 10000 in
theorem lk_603 : (Jvm.Cond.methodLink "LawfulLots$Chart" (104 : Nat) ({ cls := "LawfulLots$Chart", name := "mark", desc := "(I)V" } : Jvm.MethodName)) ∈ gt := List.mem_filter.mpr ⟨in_3 (List.mem_of_getElem? (i := 123) rfl), rfl⟩
set_option maxRecDepth 10000 in
theorem lk_605 : (Jvm.Cond.instanceMethod ({ cls := "LawfulLots$Chart", name := "mark", desc := "(I)V" } : Jvm.MethodName)) ∈ gt := List.mem_filter.mpr ⟨in_3 (List.mem_of_getElem? (i := 125) rfl), rfl⟩
set_option maxRecDepth 10000 in
theorem lk_606 : (Jvm.Cond.code ({ cls := "LawfulLots$Chart", name := "mark", desc := "(I)V" } : Jvm.MethodName) prog_5_method_8_code (11 : Nat) (Option.none : Option Jvm.ClassFile.FieldType)) ∈ gt := List.mem_filter.mpr ⟨in_3 (List.mem_of_getElem? (i := 126) rfl), rfl⟩
set_option maxRecDepth 10000 in
theorem lk_607 : (Jvm.Cond.methodLink "LawfulLots$Chart" (112 : Nat) ({ cls := "java/lang/Math", name := "min", desc := "(II)I" } : Jvm.MethodName)) ∈ gt := List.mem_filter.mpr ⟨in_3 (List.mem_of_getElem? (i := 127) rfl), rfl⟩
set_option maxRecDepth 10000 in
theorem lk_608 : (Jvm.Cond.methodLink "LawfulLots$Chart" (121 : Nat) ({ cls := "LawfulLots$Book", name := "spellFirst", desc := "([I)V" } : Jvm.MethodName)) ∈ gt := List.mem_filter.mpr ⟨in_3 (List.mem_of_getElem? (i := 128) rfl), rfl⟩
set_option maxRecDepth 10000 in
theorem lk_609 : (Jvm.Cond.instanceMethod ({ cls := "LawfulLots$Book", name := "spellFirst", desc := "([I)V" } : Jvm.MethodName)) ∈ gt := List.mem_filter.mpr ⟨in_3 (List.mem_of_getElem? (i := 129) rfl), rfl⟩
set_option maxRecDepth 10000 in
theorem lk_610 : (Jvm.Cond.selects "LawfulLots$Book" ({ cls := "LawfulLots$Book", name := "spellFirst", desc := "([I)V" } : Jvm.MethodName) ({ cls := "LawfulLots$Book", name := "spellFirst", desc := "([I)V" } : Jvm.MethodName)) ∈ gt := List.mem_filter.mpr ⟨in_3 (List.mem_of_getElem? (i := 130) rfl), rfl⟩
set_option maxRecDepth 10000 in
theorem lk_611 : (Jvm.Cond.code ({ cls := "LawfulLots$Book", name := "spellFirst", desc := "([I)V" } : Jvm.MethodName) prog_3_method_17_code (3 : Nat) (Option.none : Option Jvm.ClassFile.FieldType)) ∈ gt := List.mem_filter.mpr ⟨in_3 (List.mem_of_getElem? (i := 131) rfl), rfl⟩
set_option maxRecDepth 10000 in
theorem lk_612 : (Jvm.Cond.methodLink "LawfulLots$Chart" (125 : Nat) ({ cls := "LawfulLots$Machine", name := "run", desc := "(LLawfulLots$Book;I[I[I)I" } : Jvm.MethodName)) ∈ gt := List.mem_filter.mpr ⟨in_3 (List.mem_of_getElem? (i := 132) rfl), rfl⟩
set_option maxRecDepth 10000 in
theorem lk_613 : (Jvm.Cond.instanceMethod ({ cls := "LawfulLots$Machine", name := "run", desc := "(LLawfulLots$Book;I[I[I)I" } : Jvm.MethodName)) ∈ gt := List.mem_filter.mpr ⟨in_3 (List.mem_of_getElem? (i := 133) rfl), rfl⟩
set_option maxRecDepth 10000 in
theorem lk_614 : (Jvm.Cond.selects "LawfulLots$Machine" ({ cls := "LawfulLots$Machine", name := "run", desc := "(LLawfulLots$Book;I[I[I)I" } : Jvm.MethodName) ({ cls := "LawfulLots$Machine", name := "run", desc := "(LLawfulLots$Book;I[I[I)I" } : Jvm.MethodName)) ∈ gt := List.mem_filter.mpr ⟨in_3 (List.mem_of_getElem? (i := 134) rfl), rfl⟩
set_option maxRecDepth 10000 in
theorem lk_615 : (Jvm.Cond.code ({ cls := "LawfulLots$Machine", name := "run", desc := "(LLawfulLots$Book;I[I[I)I" } : Jvm.MethodName) prog_7_method_2_code (11 : Nat) (Option.some Jvm.ClassFile.FieldType.int)) ∈ gt := List.mem_filter.mpr ⟨in_3 (List.mem_of_getElem? (i := 135) rfl), rfl⟩
set_option maxRecDepth 10000 in
theorem lk_616 : (Jvm.Cond.methodLink "LawfulLots$Chart" (129 : Nat) ({ cls := "LawfulLots$Book", name := "advance", desc := "([I)I" } : Jvm.MethodName)) ∈ gt := List.mem_filter.mpr ⟨in_3 (List.mem_of_getElem? (i := 136) rfl), rfl⟩
set_option maxRecDepth 10000 in
theorem lk_617 : (Jvm.Cond.instanceMethod ({ cls := "LawfulLots$Book", name := "advance", desc := "([I)I" } : Jvm.MethodName)) ∈ gt := List.mem_filter.mpr ⟨in_3 (List.mem_of_getElem? (i := 137) rfl), rfl⟩
set_option maxRecDepth 10000 in
theorem lk_618 : (Jvm.Cond.selects "LawfulLots$Book" ({ cls := "LawfulLots$Book", name := "advance", desc := "([I)I" } : Jvm.MethodName) ({ cls := "LawfulLots$Book", name := "advance", desc := "([I)I" } : Jvm.MethodName)) ∈ gt := List.mem_filter.mpr ⟨in_3 (List.mem_of_getElem? (i := 138) rfl), rfl⟩
set_option maxRecDepth 10000 in
theorem lk_619 : (Jvm.Cond.code ({ cls := "LawfulLots$Book", name := "advance", desc := "([I)I" } : Jvm.MethodName) prog_3_method_18_code (3 : Nat) (Option.some Jvm.ClassFile.FieldType.int)) ∈ gt := List.mem_filter.mpr ⟨in_3 (List.mem_of_getElem? (i := 139) rfl), rfl⟩
set_option maxRecDepth 10000 in
theorem lk_620 : (Jvm.Cond.methodLink "LawfulLots$Chart" (108 : Nat) ({ cls := "LawfulLots$Chart", name := "countStanding", desc := "()V" } : Jvm.MethodName)) ∈ gt := List.mem_filter.mpr ⟨in_3 (List.mem_of_getElem? (i := 140) rfl), rfl⟩
set_option maxRecDepth 10000 in
theorem lk_622 : (Jvm.Cond.instanceMethod ({ cls := "LawfulLots$Chart", name := "countStanding", desc := "()V" } : Jvm.MethodName)) ∈ gt := List.mem_filter.mpr ⟨in_3 (List.mem_of_getElem? (i := 142) rfl), rfl⟩
set_option maxRecDepth 10000 in
theorem lk_623 : (Jvm.Cond.code ({ cls := "LawfulLots$Chart", name := "countStanding", desc := "()V" } : Jvm.MethodName) prog_5_method_9_code (3 : Nat) (Option.none : Option Jvm.ClassFile.FieldType)) ∈ gt := List.mem_filter.mpr ⟨in_3 (List.mem_of_getElem? (i := 143) rfl), rfl⟩
set_option maxRecDepth 10000 in
theorem lk_624 : (Jvm.Cond.methodLinkNest "LawfulLots$Chart" (133 : Nat) ({ cls := "LawfulLots", name := "addSupersets", desc := "([II)V" } : Jvm.MethodName) "LawfulLots") ∈ nw := List.mem_of_getElem? (i := 11) rfl
set_option maxRecDepth 10000 in
theorem lk_625 : (Jvm.Cond.static ({ cls := "LawfulLots", name := "addSupersets", desc := "([II)V" } : Jvm.MethodName)) ∈ gt := List.mem_filter.mpr ⟨in_3 (List.mem_of_getElem? (i := 145) rfl), rfl⟩
set_option maxRecDepth 10000 in
theorem lk_626 : (Jvm.Cond.code ({ cls := "LawfulLots", name := "addSupersets", desc := "([II)V" } : Jvm.MethodName) prog_1_method_32_code (5 : Nat) (Option.none : Option Jvm.ClassFile.FieldType)) ∈ gt := List.mem_filter.mpr ⟨in_3 (List.mem_of_getElem? (i := 146) rfl), rfl⟩
set_option maxRecDepth 10000 in
theorem lk_627 : (Jvm.Cond.methodLink "LawfulLots" (209 : Nat) ({ cls := "java/lang/Math", name := "min", desc := "(II)I" } : Jvm.MethodName)) ∈ gt := List.mem_filter.mpr ⟨in_3 (List.mem_of_getElem? (i := 147) rfl), rfl⟩
set_option maxRecDepth 10000 in
theorem lk_628 : (Jvm.Cond.methodLink "LawfulLots$Chart" (83 : Nat) ({ cls := "LawfulLots$Chart", name := "gather", desc := "()V" } : Jvm.MethodName)) ∈ gt := List.mem_filter.mpr ⟨in_3 (List.mem_of_getElem? (i := 148) rfl), rfl⟩
set_option maxRecDepth 10000 in
theorem lk_630 : (Jvm.Cond.instanceMethod ({ cls := "LawfulLots$Chart", name := "gather", desc := "()V" } : Jvm.MethodName)) ∈ gt := List.mem_filter.mpr ⟨in_3 (List.mem_of_getElem? (i := 150) rfl), rfl⟩
set_option maxRecDepth 10000 in
theorem lk_631 : (Jvm.Cond.code ({ cls := "LawfulLots$Chart", name := "gather", desc := "()V" } : Jvm.MethodName) prog_5_method_10_code (3 : Nat) (Option.none : Option Jvm.ClassFile.FieldType)) ∈ gt := List.mem_filter.mpr ⟨in_3 (List.mem_of_getElem? (i := 151) rfl), rfl⟩
set_option maxRecDepth 10000 in
theorem lk_632 : (Jvm.Cond.methodLink "LawfulLots$Chart" (86 : Nat) ({ cls := "LawfulLots$Chart", name := "keepSoft", desc := "()V" } : Jvm.MethodName)) ∈ gt := List.mem_filter.mpr ⟨in_3 (List.mem_of_getElem? (i := 152) rfl), rfl⟩
set_option maxRecDepth 10000 in
theorem lk_634 : (Jvm.Cond.instanceMethod ({ cls := "LawfulLots$Chart", name := "keepSoft", desc := "()V" } : Jvm.MethodName)) ∈ gt := List.mem_filter.mpr ⟨in_3 (List.mem_of_getElem? (i := 154) rfl), rfl⟩
set_option maxRecDepth 10000 in
theorem lk_635 : (Jvm.Cond.code ({ cls := "LawfulLots$Chart", name := "keepSoft", desc := "()V" } : Jvm.MethodName) prog_5_method_11_code (4 : Nat) (Option.none : Option Jvm.ClassFile.FieldType)) ∈ gt := List.mem_filter.mpr ⟨in_3 (List.mem_of_getElem? (i := 155) rfl), rfl⟩
set_option maxRecDepth 10000 in
theorem lk_636 : (Jvm.Cond.methodLink "LawfulLots$Chart" (136 : Nat) ({ cls := "LawfulLots$Chart", name := "heaviest", desc := "(I)I" } : Jvm.MethodName)) ∈ gt := List.mem_filter.mpr ⟨in_3 (List.mem_of_getElem? (i := 156) rfl), rfl⟩
set_option maxRecDepth 10000 in
theorem lk_638 : (Jvm.Cond.instanceMethod ({ cls := "LawfulLots$Chart", name := "heaviest", desc := "(I)I" } : Jvm.MethodName)) ∈ gt := List.mem_filter.mpr ⟨in_3 (List.mem_of_getElem? (i := 158) rfl), rfl⟩
set_option maxRecDepth 10000 in
theorem lk_639 : (Jvm.Cond.code ({ cls := "LawfulLots$Chart", name := "heaviest", desc := "(I)I" } : Jvm.MethodName) prog_5_method_13_code (5 : Nat) (Option.some Jvm.ClassFile.FieldType.int)) ∈ gt := List.mem_filter.mpr ⟨in_3 (List.mem_of_getElem? (i := 159) rfl), rfl⟩
set_option maxRecDepth 10000 in
theorem lk_640 : (Jvm.Cond.methodLink "LawfulLots$Chart" (139 : Nat) ({ cls := "LawfulLots$Chart", name := "canKeep", desc := "(I)Z" } : Jvm.MethodName)) ∈ gt := List.mem_filter.mpr ⟨in_3 (List.mem_of_getElem? (i := 160) rfl), rfl⟩
set_option maxRecDepth 10000 in
theorem lk_642 : (Jvm.Cond.instanceMethod ({ cls := "LawfulLots$Chart", name := "canKeep", desc := "(I)Z" } : Jvm.MethodName)) ∈ gt := List.mem_filter.mpr ⟨in_3 (List.mem_of_getElem? (i := 162) rfl), rfl⟩
set_option maxRecDepth 10000 in
theorem lk_643 : (Jvm.Cond.code ({ cls := "LawfulLots$Chart", name := "canKeep", desc := "(I)Z" } : Jvm.MethodName) prog_5_method_12_code (3 : Nat) (Option.some Jvm.ClassFile.FieldType.boolean)) ∈ gt := List.mem_filter.mpr ⟨in_3 (List.mem_of_getElem? (i := 163) rfl), rfl⟩
set_option maxRecDepth 10000 in
theorem lk_644 : (Jvm.Cond.methodLink "LawfulLots$Chart" (89 : Nat) ({ cls := "LawfulLots$Chart", name := "narrow", desc := "()V" } : Jvm.MethodName)) ∈ gt := List.mem_filter.mpr ⟨in_3 (List.mem_of_getElem? (i := 164) rfl), rfl⟩
set_option maxRecDepth 10000 in
theorem lk_646 : (Jvm.Cond.instanceMethod ({ cls := "LawfulLots$Chart", name := "narrow", desc := "()V" } : Jvm.MethodName)) ∈ gt := List.mem_filter.mpr ⟨in_3 (List.mem_of_getElem? (i := 166) rfl), rfl⟩
set_option maxRecDepth 10000 in
theorem lk_647 : (Jvm.Cond.code ({ cls := "LawfulLots$Chart", name := "narrow", desc := "()V" } : Jvm.MethodName) prog_5_method_14_code (5 : Nat) (Option.none : Option Jvm.ClassFile.FieldType)) ∈ gt := List.mem_filter.mpr ⟨in_3 (List.mem_of_getElem? (i := 167) rfl), rfl⟩
set_option maxRecDepth 10000 in
theorem lk_648 : (Jvm.Cond.methodLink "LawfulLots$Chart" (146 : Nat) ({ cls := "LawfulLots$Chart", name := "marksOf", desc := "(I)I" } : Jvm.MethodName)) ∈ gt := List.mem_filter.mpr ⟨in_3 (List.mem_of_getElem? (i := 168) rfl), rfl⟩
set_option maxRecDepth 10000 in
theorem lk_649 : (Jvm.Cond.instanceMethod ({ cls := "LawfulLots$Chart", name := "marksOf", desc := "(I)I" } : Jvm.MethodName)) ∈ gt := List.mem_filter.mpr ⟨in_3 (List.mem_of_getElem? (i := 169) rfl), rfl⟩
set_option maxRecDepth 10000 in
theorem lk_650 : (Jvm.Cond.selects "LawfulLots$Chart" ({ cls := "LawfulLots$Chart", name := "marksOf", desc := "(I)I" } : Jvm.MethodName) ({ cls := "LawfulLots$Chart", name := "marksOf", desc := "(I)I" } : Jvm.MethodName)) ∈ gt := List.mem_filter.mpr ⟨in_3 (List.mem_of_getElem? (i := 170) rfl), rfl⟩
set_option maxRecDepth 10000 in
theorem lk_651 : (Jvm.Cond.code ({ cls := "LawfulLots$Chart", name := "marksOf", desc := "(I)I" } : Jvm.MethodName) prog_5_method_15_code (2 : Nat) (Option.some Jvm.ClassFile.FieldType.int)) ∈ gt := List.mem_filter.mpr ⟨in_3 (List.mem_of_getElem? (i := 171) rfl), rfl⟩
set_option maxRecDepth 10000 in
theorem lk_652 : (Jvm.Cond.methodLink "LawfulLotsLaw" (41 : Nat) ({ cls := "LawfulLots", name := "kept", desc := "()I" } : Jvm.MethodName)) ∈ gt := List.mem_filter.mpr ⟨in_3 (List.mem_of_getElem? (i := 172) rfl), rfl⟩
set_option maxRecDepth 10000 in
theorem lk_653 : (Jvm.Cond.instanceMethod ({ cls := "LawfulLots", name := "kept", desc := "()I" } : Jvm.MethodName)) ∈ gt := List.mem_filter.mpr ⟨in_3 (List.mem_of_getElem? (i := 173) rfl), rfl⟩
set_option maxRecDepth 10000 in
theorem lk_654 : (Jvm.Cond.selects "LawfulLots" ({ cls := "LawfulLots", name := "kept", desc := "()I" } : Jvm.MethodName) ({ cls := "LawfulLots", name := "kept", desc := "()I" } : Jvm.MethodName)) ∈ gt := List.mem_filter.mpr ⟨in_3 (List.mem_of_getElem? (i := 174) rfl), rfl⟩
set_option maxRecDepth 10000 in
theorem lk_655 : (Jvm.Cond.code ({ cls := "LawfulLots", name := "kept", desc := "()I" } : Jvm.MethodName) prog_1_method_10_code (1 : Nat) (Option.some Jvm.ClassFile.FieldType.int)) ∈ gt := List.mem_filter.mpr ⟨in_3 (List.mem_of_getElem? (i := 175) rfl), rfl⟩
set_option maxRecDepth 10000 in
theorem lk_656 : (Jvm.Cond.methodLink "LawfulLotsLaw" (45 : Nat) ({ cls := "LawfulLots", name := "value", desc := "(II)I" } : Jvm.MethodName)) ∈ gt := List.mem_filter.mpr ⟨in_3 (List.mem_of_getElem? (i := 176) rfl), rfl⟩
set_option maxRecDepth 10000 in
theorem lk_657 : (Jvm.Cond.instanceMethod ({ cls := "LawfulLots", name := "value", desc := "(II)I" } : Jvm.MethodName)) ∈ gt := List.mem_filter.mpr ⟨in_3 (List.mem_of_getElem? (i := 177) rfl), rfl⟩
set_option maxRecDepth 10000 in
theorem lk_658 : (Jvm.Cond.selects "LawfulLots" ({ cls := "LawfulLots", name := "value", desc := "(II)I" } : Jvm.MethodName) ({ cls := "LawfulLots", name := "value", desc := "(II)I" } : Jvm.MethodName)) ∈ gt := List.mem_filter.mpr ⟨in_3 (List.mem_of_getElem? (i := 178) rfl), rfl⟩
set_option maxRecDepth 10000 in
theorem lk_659 : (Jvm.Cond.code ({ cls := "LawfulLots", name := "value", desc := "(II)I" } : Jvm.MethodName) prog_1_method_11_code (3 : Nat) (Option.some Jvm.ClassFile.FieldType.int)) ∈ gt := List.mem_filter.mpr ⟨in_3 (List.mem_of_getElem? (i := 179) rfl), rfl⟩
set_option maxRecDepth 10000 in
theorem lk_660 : (Jvm.Cond.methodLink "LawfulLots" (108 : Nat) ({ cls := "LawfulLots$Chart", name := "inputOf", desc := "(I)I" } : Jvm.MethodName)) ∈ gt := List.mem_filter.mpr ⟨in_3 (List.mem_of_getElem? (i := 180) rfl), rfl⟩
set_option maxRecDepth 10000 in
theorem lk_661 : (Jvm.Cond.instanceMethod ({ cls := "LawfulLots$Chart", name := "inputOf", desc := "(I)I" } : Jvm.MethodName)) ∈ gt := List.mem_filter.mpr ⟨in_3 (List.mem_of_getElem? (i := 181) rfl), rfl⟩
set_option maxRecDepth 10000 in
theorem lk_662 : (Jvm.Cond.selects "LawfulLots$Chart" ({ cls := "LawfulLots$Chart", name := "inputOf", desc := "(I)I" } : Jvm.MethodName) ({ cls := "LawfulLots$Chart", name := "inputOf", desc := "(I)I" } : Jvm.MethodName)) ∈ gt := List.mem_filter.mpr ⟨in_3 (List.mem_of_getElem? (i := 182) rfl), rfl⟩
set_option maxRecDepth 10000 in
theorem lk_663 : (Jvm.Cond.code ({ cls := "LawfulLots$Chart", name := "inputOf", desc := "(I)I" } : Jvm.MethodName) prog_5_method_17_code (2 : Nat) (Option.some Jvm.ClassFile.FieldType.int)) ∈ gt := List.mem_filter.mpr ⟨in_3 (List.mem_of_getElem? (i := 183) rfl), rfl⟩
set_option maxRecDepth 10000 in
theorem lk_664 : (Jvm.Cond.methodLink "LawfulLots" (112 : Nat) ({ cls := "LawfulLots$Book", name := "valueIn", desc := "(II)I" } : Jvm.MethodName)) ∈ gt := List.mem_filter.mpr ⟨in_3 (List.mem_of_getElem? (i := 184) rfl), rfl⟩
set_option maxRecDepth 10000 in
theorem lk_665 : (Jvm.Cond.instanceMethod ({ cls := "LawfulLots$Book", name := "valueIn", desc := "(II)I" } : Jvm.MethodName)) ∈ gt := List.mem_filter.mpr ⟨in_3 (List.mem_of_getElem? (i := 185) rfl), rfl⟩
set_option maxRecDepth 10000 in
theorem lk_666 : (Jvm.Cond.selects "LawfulLots$Book" ({ cls := "LawfulLots$Book", name := "valueIn", desc := "(II)I" } : Jvm.MethodName) ({ cls := "LawfulLots$Book", name := "valueIn", desc := "(II)I" } : Jvm.MethodName)) ∈ gt := List.mem_filter.mpr ⟨in_3 (List.mem_of_getElem? (i := 186) rfl), rfl⟩
set_option maxRecDepth 10000 in
theorem lk_667 : (Jvm.Cond.code ({ cls := "LawfulLots$Book", name := "valueIn", desc := "(II)I" } : Jvm.MethodName) prog_3_method_14_code (4 : Nat) (Option.some Jvm.ClassFile.FieldType.int)) ∈ gt := List.mem_filter.mpr ⟨in_3 (List.mem_of_getElem? (i := 187) rfl), rfl⟩
set_option maxRecDepth 10000 in
theorem lk_668 : (Jvm.Cond.methodLink "LawfulLotsLaw" (50 : Nat) ({ cls := "LawfulLots", name := "share", desc := "(I)I" } : Jvm.MethodName)) ∈ gt := List.mem_filter.mpr ⟨in_3 (List.mem_of_getElem? (i := 188) rfl), rfl⟩
set_option maxRecDepth 10000 in
theorem lk_669 : (Jvm.Cond.instanceMethod ({ cls := "LawfulLots", name := "share", desc := "(I)I" } : Jvm.MethodName)) ∈ gt := List.mem_filter.mpr ⟨in_3 (List.mem_of_getElem? (i := 189) rfl), rfl⟩
set_option maxRecDepth 10000 in
theorem lk_670 : (Jvm.Cond.selects "LawfulLots" ({ cls := "LawfulLots", name := "share", desc := "(I)I" } : Jvm.MethodName) ({ cls := "LawfulLots", name := "share", desc := "(I)I" } : Jvm.MethodName)) ∈ gt := List.mem_filter.mpr ⟨in_3 (List.mem_of_getElem? (i := 190) rfl), rfl⟩
set_option maxRecDepth 10000 in
theorem lk_671 : (Jvm.Cond.code ({ cls := "LawfulLots", name := "share", desc := "(I)I" } : Jvm.MethodName) prog_1_method_12_code (2 : Nat) (Option.some Jvm.ClassFile.FieldType.int)) ∈ gt := List.mem_filter.mpr ⟨in_3 (List.mem_of_getElem? (i := 191) rfl), rfl⟩
set_option maxRecDepth 10000 in
theorem lk_672 : (Jvm.Cond.methodLink "LawfulLots" (116 : Nat) ({ cls := "LawfulLots$Chart", name := "refreshShares", desc := "()V" } : Jvm.MethodName)) ∈ gt := List.mem_filter.mpr ⟨in_3 (List.mem_of_getElem? (i := 192) rfl), rfl⟩
set_option maxRecDepth 10000 in
theorem lk_673 : (Jvm.Cond.instanceMethod ({ cls := "LawfulLots$Chart", name := "refreshShares", desc := "()V" } : Jvm.MethodName)) ∈ gt := List.mem_filter.mpr ⟨in_3 (List.mem_of_getElem? (i := 193) rfl), rfl⟩
set_option maxRecDepth 10000 in
theorem lk_674 : (Jvm.Cond.selects "LawfulLots$Chart" ({ cls := "LawfulLots$Chart", name := "refreshShares", desc := "()V" } : Jvm.MethodName) ({ cls := "LawfulLots$Chart", name := "refreshShares", desc := "()V" } : Jvm.MethodName)) ∈ gt := List.mem_filter.mpr ⟨in_3 (List.mem_of_getElem? (i := 194) rfl), rfl⟩
set_option maxRecDepth 10000 in
theorem lk_675 : (Jvm.Cond.code ({ cls := "LawfulLots$Chart", name := "refreshShares", desc := "()V" } : Jvm.MethodName) prog_5_method_20_code (1 : Nat) (Option.none : Option Jvm.ClassFile.FieldType)) ∈ gt := List.mem_filter.mpr ⟨in_3 (List.mem_of_getElem? (i := 195) rfl), rfl⟩
set_option maxRecDepth 10000 in
theorem lk_676 : (Jvm.Cond.methodLink "LawfulLots$Chart" (149 : Nat) ({ cls := "LawfulLots$Chart", name := "refresh", desc := "()V" } : Jvm.MethodName)) ∈ gt := List.mem_filter.mpr ⟨in_3 (List.mem_of_getElem? (i := 196) rfl), rfl⟩
set_option maxRecDepth 10000 in
theorem lk_677 : (Jvm.Cond.methodLink "LawfulLots$Chart" (152 : Nat) ({ cls := "LawfulLots$Chart", name := "tellShares", desc := "()V" } : Jvm.MethodName)) ∈ gt := List.mem_filter.mpr ⟨in_3 (List.mem_of_getElem? (i := 197) rfl), rfl⟩
set_option maxRecDepth 10000 in
theorem lk_679 : (Jvm.Cond.instanceMethod ({ cls := "LawfulLots$Chart", name := "tellShares", desc := "()V" } : Jvm.MethodName)) ∈ gt := List.mem_filter.mpr ⟨in_3 (List.mem_of_getElem? (i := 199) rfl), rfl⟩
set_option maxRecDepth 10000 in
theorem lk_680 : (Jvm.Cond.code ({ cls := "LawfulLots$Chart", name := "tellShares", desc := "()V" } : Jvm.MethodName) prog_5_method_21_code (6 : Nat) (Option.none : Option Jvm.ClassFile.FieldType)) ∈ gt := List.mem_filter.mpr ⟨in_3 (List.mem_of_getElem? (i := 200) rfl), rfl⟩
set_option maxRecDepth 10000 in
theorem lk_681 : (Jvm.Cond.methodLink "LawfulLots$Chart" (158 : Nat) ({ cls := "LawfulLots$Chart", name := "reachOfShares", desc := "()I" } : Jvm.MethodName)) ∈ gt := List.mem_filter.mpr ⟨in_3 (List.mem_of_getElem? (i := 201) rfl), rfl⟩
set_option maxRecDepth 10000 in
theorem lk_683 : (Jvm.Cond.instanceMethod ({ cls := "LawfulLots$Chart", name := "reachOfShares", desc := "()I" } : Jvm.MethodName)) ∈ gt := List.mem_filter.mpr ⟨in_3 (List.mem_of_getElem? (i := 203) rfl), rfl⟩
set_option maxRecDepth 10000 in
theorem lk_684 : (Jvm.Cond.code ({ cls := "LawfulLots$Chart", name := "reachOfShares", desc := "()I" } : Jvm.MethodName) prog_5_method_22_code (3 : Nat) (Option.some Jvm.ClassFile.FieldType.int)) ∈ gt := List.mem_filter.mpr ⟨in_3 (List.mem_of_getElem? (i := 204) rfl), rfl⟩
set_option maxRecDepth 10000 in
theorem lk_685 : (Jvm.Cond.methodLink "LawfulLots$Chart" (165 : Nat) ({ cls := "LawfulLots$Book", name := "reachOf", desc := "(I)I" } : Jvm.MethodName)) ∈ gt := List.mem_filter.mpr ⟨in_3 (List.mem_of_getElem? (i := 205) rfl), rfl⟩
set_option maxRecDepth 10000 in
theorem lk_686 : (Jvm.Cond.instanceMethod ({ cls := "LawfulLots$Book", name := "reachOf", desc := "(I)I" } : Jvm.MethodName)) ∈ gt := List.mem_filter.mpr ⟨in_3 (List.mem_of_getElem? (i := 206) rfl), rfl⟩
set_option maxRecDepth 10000 in
theorem lk_687 : (Jvm.Cond.selects "LawfulLots$Book" ({ cls := "LawfulLots$Book", name := "reachOf", desc := "(I)I" } : Jvm.MethodName) ({ cls := "LawfulLots$Book", name := "reachOf", desc := "(I)I" } : Jvm.MethodName)) ∈ gt := List.mem_filter.mpr ⟨in_3 (List.mem_of_getElem? (i := 207) rfl), rfl⟩
set_option maxRecDepth 10000 in
theorem lk_688 : (Jvm.Cond.code ({ cls := "LawfulLots$Book", name := "reachOf", desc := "(I)I" } : Jvm.MethodName) prog_3_method_12_code (2 : Nat) (Option.some Jvm.ClassFile.FieldType.int)) ∈ gt := List.mem_filter.mpr ⟨in_3 (List.mem_of_getElem? (i := 208) rfl), rfl⟩
set_option maxRecDepth 10000 in
theorem lk_689 : (Jvm.Cond.methodLink "LawfulLots$Chart" (168 : Nat) ({ cls := "java/lang/Math", name := "max", desc := "(II)I" } : Jvm.MethodName)) ∈ gt := List.mem_filter.mpr ⟨in_3 (List.mem_of_getElem? (i := 209) rfl), rfl⟩
set_option maxRecDepth 10000 in
theorem lk_690 : (Jvm.Cond.methodLink "LawfulLots$Chart" (162 : Nat) ({ cls := "LawfulLots$Chart", name := "shareNow", desc := "()I" } : Jvm.MethodName)) ∈ gt := List.mem_filter.mpr ⟨in_3 (List.mem_of_getElem? (i := 210) rfl), rfl⟩
set_option maxRecDepth 10000 in
theorem lk_692 : (Jvm.Cond.instanceMethod ({ cls := "LawfulLots$Chart", name := "shareNow", desc := "()I" } : Jvm.MethodName)) ∈ gt := List.mem_filter.mpr ⟨in_3 (List.mem_of_getElem? (i := 212) rfl), rfl⟩
set_option maxRecDepth 10000 in
theorem lk_693 : (Jvm.Cond.code ({ cls := "LawfulLots$Chart", name := "shareNow", desc := "()I" } : Jvm.MethodName) prog_5_method_23_code (4 : Nat) (Option.some Jvm.ClassFile.FieldType.int)) ∈ gt := List.mem_filter.mpr ⟨in_3 (List.mem_of_getElem? (i := 213) rfl), rfl⟩
set_option maxRecDepth 10000 in
theorem lk_694 : (Jvm.Cond.methodLink "LawfulLots$Chart" (171 : Nat) ({ cls := "LawfulLots$Book", name := "isEmpty", desc := "(I)Z" } : Jvm.MethodName)) ∈ gt := List.mem_filter.mpr ⟨in_3 (List.mem_of_getElem? (i := 214) rfl), rfl⟩
set_option maxRecDepth 10000 in
theorem lk_695 : (Jvm.Cond.instanceMethod ({ cls := "LawfulLots$Book", name := "isEmpty", desc := "(I)Z" } : Jvm.MethodName)) ∈ gt := List.mem_filter.mpr ⟨in_3 (List.mem_of_getElem? (i := 215) rfl), rfl⟩
set_option maxRecDepth 10000 in
theorem lk_696 : (Jvm.Cond.selects "LawfulLots$Book" ({ cls := "LawfulLots$Book", name := "isEmpty", desc := "(I)Z" } : Jvm.MethodName) ({ cls := "LawfulLots$Book", name := "isEmpty", desc := "(I)Z" } : Jvm.MethodName)) ∈ gt := List.mem_filter.mpr ⟨in_3 (List.mem_of_getElem? (i := 216) rfl), rfl⟩
set_option maxRecDepth 10000 in
theorem lk_697 : (Jvm.Cond.code ({ cls := "LawfulLots$Book", name := "isEmpty", desc := "(I)Z" } : Jvm.MethodName) prog_3_method_11_code (2 : Nat) (Option.some Jvm.ClassFile.FieldType.boolean)) ∈ gt := List.mem_filter.mpr ⟨in_3 (List.mem_of_getElem? (i := 217) rfl), rfl⟩
set_option maxRecDepth 10000 in
theorem lk_698 : (Jvm.Cond.methodLink "LawfulLots$Chart" (155 : Nat) ({ cls := "LawfulLots$Chart", name := "addShares", desc := "()V" } : Jvm.MethodName)) ∈ gt := List.mem_filter.mpr ⟨in_3 (List.mem_of_getElem? (i := 218) rfl), rfl⟩
set_option maxRecDepth 10000 in
theorem lk_700 : (Jvm.Cond.instanceMethod ({ cls := "LawfulLots$Chart", name := "addShares", desc := "()V" } : Jvm.MethodName)) ∈ gt := List.mem_filter.mpr ⟨in_3 (List.mem_of_getElem? (i := 220) rfl), rfl⟩
set_option maxRecDepth 10000 in
theorem lk_701 : (Jvm.Cond.code ({ cls := "LawfulLots$Chart", name := "addShares", desc := "()V" } : Jvm.MethodName) prog_5_method_24_code (2 : Nat) (Option.none : Option Jvm.ClassFile.FieldType)) ∈ gt := List.mem_filter.mpr ⟨in_3 (List.mem_of_getElem? (i := 221) rfl), rfl⟩
set_option maxRecDepth 10000 in
theorem lk_702 : (Jvm.Cond.methodLink "LawfulLots$Chart" (174 : Nat) ({ cls := "LawfulLots$Chart", name := "shareOf", desc := "(I)I" } : Jvm.MethodName)) ∈ gt := List.mem_filter.mpr ⟨in_3 (List.mem_of_getElem? (i := 222) rfl), rfl⟩
set_option maxRecDepth 10000 in
theorem lk_703 : (Jvm.Cond.instanceMethod ({ cls := "LawfulLots$Chart", name := "shareOf", desc := "(I)I" } : Jvm.MethodName)) ∈ gt := List.mem_filter.mpr ⟨in_3 (List.mem_of_getElem? (i := 223) rfl), rfl⟩
set_option maxRecDepth 10000 in
theorem lk_704 : (Jvm.Cond.selects "LawfulLots$Chart" ({ cls := "LawfulLots$Chart", name := "shareOf", desc := "(I)I" } : Jvm.MethodName) ({ cls := "LawfulLots$Chart", name := "shareOf", desc := "(I)I" } : Jvm.MethodName)) ∈ gt := List.mem_filter.mpr ⟨in_3 (List.mem_of_getElem? (i := 224) rfl), rfl⟩
set_option maxRecDepth 10000 in
theorem lk_705 : (Jvm.Cond.code ({ cls := "LawfulLots$Chart", name := "shareOf", desc := "(I)I" } : Jvm.MethodName) prog_5_method_25_code (3 : Nat) (Option.some Jvm.ClassFile.FieldType.int)) ∈ gt := List.mem_filter.mpr ⟨in_3 (List.mem_of_getElem? (i := 225) rfl), rfl⟩
set_option maxRecDepth 10000 in
theorem lk_706 : (Jvm.Cond.methodLink "LawfulLots$Chart" (177 : Nat) ({ cls := "LawfulLots$Chart", name := "inputOf", desc := "(I)I" } : Jvm.MethodName)) ∈ gt := List.mem_filter.mpr ⟨in_3 (List.mem_of_getElem? (i := 226) rfl), rfl⟩
set_option maxRecDepth 10000 in
theorem lk_707 : (Jvm.Cond.methodLink "LawfulLots" (119 : Nat) ({ cls := "LawfulLots$Chart", name := "shareOf", desc := "(I)I" } : Jvm.MethodName)) ∈ gt := List.mem_filter.mpr ⟨in_3 (List.mem_of_getElem? (i := 227) rfl), rfl⟩
set_option maxRecDepth 10000 in
theorem lk_708 : (Jvm.Cond.methodLink "LawfulLotsLaw" (54 : Nat) ({ cls := "LawfulLots", name := "sum", desc := "()I" } : Jvm.MethodName)) ∈ gt := List.mem_filter.mpr ⟨in_3 (List.mem_of_getElem? (i := 228) rfl), rfl⟩
set_option maxRecDepth 10000 in
theorem lk_709 : (Jvm.Cond.instanceMethod ({ cls := "LawfulLots", name := "sum", desc := "()I" } : Jvm.MethodName)) ∈ gt := List.mem_filter.mpr ⟨in_3 (List.mem_of_getElem? (i := 229) rfl), rfl⟩
set_option maxRecDepth 10000 in
theorem lk_710 : (Jvm.Cond.selects "LawfulLots" ({ cls := "LawfulLots", name := "sum", desc := "()I" } : Jvm.MethodName) ({ cls := "LawfulLots", name := "sum", desc := "()I" } : Jvm.MethodName)) ∈ gt := List.mem_filter.mpr ⟨in_3 (List.mem_of_getElem? (i := 230) rfl), rfl⟩
set_option maxRecDepth 10000 in
theorem lk_711 : (Jvm.Cond.code ({ cls := "LawfulLots", name := "sum", desc := "()I" } : Jvm.MethodName) prog_1_method_13_code (1 : Nat) (Option.some Jvm.ClassFile.FieldType.int)) ∈ gt := List.mem_filter.mpr ⟨in_3 (List.mem_of_getElem? (i := 231) rfl), rfl⟩
set_option maxRecDepth 10000 in
theorem lk_712 : (Jvm.Cond.methodLink "LawfulLotsLaw" (58 : Nat) ({ cls := "LawfulLots", name := "pick", desc := "(I)I" } : Jvm.MethodName)) ∈ gt := List.mem_filter.mpr ⟨in_3 (List.mem_of_getElem? (i := 232) rfl), rfl⟩
set_option maxRecDepth 10000 in
theorem lk_713 : (Jvm.Cond.instanceMethod ({ cls := "LawfulLots", name := "pick", desc := "(I)I" } : Jvm.MethodName)) ∈ gt := List.mem_filter.mpr ⟨in_3 (List.mem_of_getElem? (i := 233) rfl), rfl⟩
set_option maxRecDepth 10000 in
theorem lk_714 : (Jvm.Cond.selects "LawfulLots" ({ cls := "LawfulLots", name := "pick", desc := "(I)I" } : Jvm.MethodName) ({ cls := "LawfulLots", name := "pick", desc := "(I)I" } : Jvm.MethodName)) ∈ gt := List.mem_filter.mpr ⟨in_3 (List.mem_of_getElem? (i := 234) rfl), rfl⟩
set_option maxRecDepth 10000 in
theorem lk_715 : (Jvm.Cond.code ({ cls := "LawfulLots", name := "pick", desc := "(I)I" } : Jvm.MethodName) prog_1_method_14_code (2 : Nat) (Option.some Jvm.ClassFile.FieldType.int)) ∈ gt := List.mem_filter.mpr ⟨in_3 (List.mem_of_getElem? (i := 235) rfl), rfl⟩
set_option maxRecDepth 10000 in
theorem lk_716 : (Jvm.Cond.methodLink "LawfulLots" (125 : Nat) ({ cls := "LawfulLots$Chart", name := "drawnBy", desc := "(I)I" } : Jvm.MethodName)) ∈ gt := List.mem_filter.mpr ⟨in_3 (List.mem_of_getElem? (i := 236) rfl), rfl⟩
set_option maxRecDepth 10000 in
theorem lk_717 : (Jvm.Cond.instanceMethod ({ cls := "LawfulLots$Chart", name := "drawnBy", desc := "(I)I" } : Jvm.MethodName)) ∈ gt := List.mem_filter.mpr ⟨in_3 (List.mem_of_getElem? (i := 237) rfl), rfl⟩
set_option maxRecDepth 10000 in
theorem lk_718 : (Jvm.Cond.selects "LawfulLots$Chart" ({ cls := "LawfulLots$Chart", name := "drawnBy", desc := "(I)I" } : Jvm.MethodName) ({ cls := "LawfulLots$Chart", name := "drawnBy", desc := "(I)I" } : Jvm.MethodName)) ∈ gt := List.mem_filter.mpr ⟨in_3 (List.mem_of_getElem? (i := 238) rfl), rfl⟩
set_option maxRecDepth 10000 in
theorem lk_719 : (Jvm.Cond.code ({ cls := "LawfulLots$Chart", name := "drawnBy", desc := "(I)I" } : Jvm.MethodName) prog_5_method_26_code (5 : Nat) (Option.some Jvm.ClassFile.FieldType.int)) ∈ gt := List.mem_filter.mpr ⟨in_3 (List.mem_of_getElem? (i := 239) rfl), rfl⟩
set_option maxRecDepth 10000 in
theorem lk_720 : (Jvm.Cond.methodLink "LawfulLotsLaw" (64 : Nat) ({ cls := "LawfulLots", name := "draw", desc := "(JI)I" } : Jvm.MethodName)) ∈ gt := List.mem_filter.mpr ⟨in_4 (List.mem_of_getElem? (i := 0) rfl), rfl⟩
set_option maxRecDepth 10000 in
theorem lk_721 : (Jvm.Cond.instanceMethod ({ cls := "LawfulLots", name := "draw", desc := "(JI)I" } : Jvm.MethodName)) ∈ gt := List.mem_filter.mpr ⟨in_4 (List.mem_of_getElem? (i := 1) rfl), rfl⟩
set_option maxRecDepth 10000 in
theorem lk_722 : (Jvm.Cond.selects "LawfulLots" ({ cls := "LawfulLots", name := "draw", desc := "(JI)I" } : Jvm.MethodName) ({ cls := "LawfulLots", name := "draw", desc := "(JI)I" } : Jvm.MethodName)) ∈ gt := List.mem_filter.mpr ⟨in_4 (List.mem_of_getElem? (i := 2) rfl), rfl⟩
set_option maxRecDepth 10000 in
theorem lk_723 : (Jvm.Cond.code ({ cls := "LawfulLots", name := "draw", desc := "(JI)I" } : Jvm.MethodName) prog_1_method_15_code (9 : Nat) (Option.some Jvm.ClassFile.FieldType.int)) ∈ gt := List.mem_filter.mpr ⟨in_4 (List.mem_of_getElem? (i := 3) rfl), rfl⟩
set_option maxRecDepth 10000 in
theorem lk_724 : (Jvm.Cond.constantLong "LawfulLots" (128 : Nat) (31 : Int64)) ∈ gt := List.mem_filter.mpr ⟨in_4 (List.mem_of_getElem? (i := 4) rfl), rfl⟩
set_option maxRecDepth 10000 in
theorem lk_725 : (Jvm.Cond.constantLong "LawfulLots" (130 : Nat) (2862933555777941757 : Int64)) ∈ gt := List.mem_filter.mpr ⟨in_4 (List.mem_of_getElem? (i := 5) rfl), rfl⟩
set_option maxRecDepth 10000 in
theorem lk_726 : (Jvm.Cond.methodLink "LawfulLots" (132 : Nat) ({ cls := "LawfulLots$Log", name := "add", desc := "(I)V" } : Jvm.MethodName)) ∈ gt := List.mem_filter.mpr ⟨in_4 (List.mem_of_getElem? (i := 6) rfl), rfl⟩
set_option maxRecDepth 10000 in
theorem lk_727 : (Jvm.Cond.instanceMethod ({ cls := "LawfulLots$Log", name := "add", desc := "(I)V" } : Jvm.MethodName)) ∈ gt := List.mem_filter.mpr ⟨in_4 (List.mem_of_getElem? (i := 7) rfl), rfl⟩
set_option maxRecDepth 10000 in
theorem lk_728 : (Jvm.Cond.selects "LawfulLots$Log" ({ cls := "LawfulLots$Log", name := "add", desc := "(I)V" } : Jvm.MethodName) ({ cls := "LawfulLots$Log", name := "add", desc := "(I)V" } : Jvm.MethodName)) ∈ gt := List.mem_filter.mpr ⟨in_4 (List.mem_of_getElem? (i := 8) rfl), rfl⟩
set_option maxRecDepth 10000 in
theorem lk_729 : (Jvm.Cond.code ({ cls := "LawfulLots$Log", name := "add", desc := "(I)V" } : Jvm.MethodName) prog_6_method_2_code (2 : Nat) (Option.none : Option Jvm.ClassFile.FieldType)) ∈ gt := List.mem_filter.mpr ⟨in_4 (List.mem_of_getElem? (i := 9) rfl), rfl⟩
set_option maxRecDepth 10000 in
theorem lk_730 : (Jvm.Cond.methodLink "LawfulLotsLaw" (69 : Nat) ({ cls := "LawfulLots", name := "quarrel", desc := "()I" } : Jvm.MethodName)) ∈ gt := List.mem_filter.mpr ⟨in_4 (List.mem_of_getElem? (i := 10) rfl), rfl⟩
set_option maxRecDepth 10000 in
theorem lk_731 : (Jvm.Cond.instanceMethod ({ cls := "LawfulLots", name := "quarrel", desc := "()I" } : Jvm.MethodName)) ∈ gt := List.mem_filter.mpr ⟨in_4 (List.mem_of_getElem? (i := 11) rfl), rfl⟩
set_option maxRecDepth 10000 in
theorem lk_732 : (Jvm.Cond.selects "LawfulLots" ({ cls := "LawfulLots", name := "quarrel", desc := "()I" } : Jvm.MethodName) ({ cls := "LawfulLots", name := "quarrel", desc := "()I" } : Jvm.MethodName)) ∈ gt := List.mem_filter.mpr ⟨in_4 (List.mem_of_getElem? (i := 12) rfl), rfl⟩
set_option maxRecDepth 10000 in
theorem lk_733 : (Jvm.Cond.code ({ cls := "LawfulLots", name := "quarrel", desc := "()I" } : Jvm.MethodName) prog_1_method_16_code (1 : Nat) (Option.some Jvm.ClassFile.FieldType.int)) ∈ gt := List.mem_filter.mpr ⟨in_4 (List.mem_of_getElem? (i := 13) rfl), rfl⟩
set_option maxRecDepth 10000 in
theorem lk_734 : (Jvm.Cond.methodLink "LawfulLots" (138 : Nat) ({ cls := "LawfulLots$Chart", name := "smallestQuarrel", desc := "()I" } : Jvm.MethodName)) ∈ gt := List.mem_filter.mpr ⟨in_4 (List.mem_of_getElem? (i := 14) rfl), rfl⟩
set_option maxRecDepth 10000 in
theorem lk_735 : (Jvm.Cond.instanceMethod ({ cls := "LawfulLots$Chart", name := "smallestQuarrel", desc := "()I" } : Jvm.MethodName)) ∈ gt := List.mem_filter.mpr ⟨in_4 (List.mem_of_getElem? (i := 15) rfl), rfl⟩
set_option maxRecDepth 10000 in
theorem lk_736 : (Jvm.Cond.selects "LawfulLots$Chart" ({ cls := "LawfulLots$Chart", name := "smallestQuarrel", desc := "()I" } : Jvm.MethodName) ({ cls := "LawfulLots$Chart", name := "smallestQuarrel", desc := "()I" } : Jvm.MethodName)) ∈ gt := List.mem_filter.mpr ⟨in_4 (List.mem_of_getElem? (i := 16) rfl), rfl⟩
set_option maxRecDepth 10000 in
theorem lk_737 : (Jvm.Cond.code ({ cls := "LawfulLots$Chart", name := "smallestQuarrel", desc := "()I" } : Jvm.MethodName) prog_5_method_28_code (3 : Nat) (Option.some Jvm.ClassFile.FieldType.int)) ∈ gt := List.mem_filter.mpr ⟨in_4 (List.mem_of_getElem? (i := 17) rfl), rfl⟩
set_option maxRecDepth 10000 in
theorem lk_738 : (Jvm.Cond.methodLink "LawfulLots$Chart" (180 : Nat) ({ cls := "LawfulLots$Chart", name := "isAhead", desc := "(II)Z" } : Jvm.MethodName)) ∈ gt := List.mem_filter.mpr ⟨in_4 (List.mem_of_getElem? (i := 18) rfl), rfl⟩
set_option maxRecDepth 10000 in
theorem lk_739 : (Jvm.Cond.static ({ cls := "LawfulLots$Chart", name := "isAhead", desc := "(II)Z" } : Jvm.MethodName)) ∈ gt := List.mem_filter.mpr ⟨in_4 (List.mem_of_getElem? (i := 19) rfl), rfl⟩
set_option maxRecDepth 10000 in
theorem lk_740 : (Jvm.Cond.code ({ cls := "LawfulLots$Chart", name := "isAhead", desc := "(II)Z" } : Jvm.MethodName) prog_5_method_29_code (3 : Nat) (Option.some Jvm.ClassFile.FieldType.boolean)) ∈ gt := List.mem_filter.mpr ⟨in_4 (List.mem_of_getElem? (i := 20) rfl), rfl⟩
set_option maxRecDepth 10000 in
theorem lk_741 : (Jvm.Cond.methodLink "LawfulLots$Chart" (184 : Nat) ({ cls := "java/lang/Integer", name := "bitCount", desc := "(I)I" } : Jvm.MethodName)) ∈ gt := List.mem_filter.mpr ⟨in_4 (List.mem_of_getElem? (i := 21) rfl), rfl⟩
set_option maxRecDepth 10000 in
theorem lk_742 : (Jvm.Cond.static ({ cls := "java/lang/Integer", name := "bitCount", desc := "(I)I" } : Jvm.MethodName)) ∈ gt := List.mem_filter.mpr ⟨in_4 (List.mem_of_getElem? (i := 22) rfl), rfl⟩
set_option maxRecDepth 10000 in
theorem lk_743 : (Jvm.Cond.code ({ cls := "java/lang/Integer", name := "bitCount", desc := "(I)I" } : Jvm.MethodName) prog_12_method_49_code (1 : Nat) (Option.some Jvm.ClassFile.FieldType.int)) ∈ gt := List.mem_filter.mpr ⟨in_4 (List.mem_of_getElem? (i := 23) rfl), rfl⟩
set_option maxRecDepth 10000 in
theorem lk_744 : (Jvm.Cond.constant "java/lang/Integer" (265 : Nat) (1431655765 : Int32)) ∈ gt := List.mem_filter.mpr ⟨in_4 (List.mem_of_getElem? (i := 24) rfl), rfl⟩
set_option maxRecDepth 10000 in
theorem lk_745 : (Jvm.Cond.constant "java/lang/Integer" (266 : Nat) (858993459 : Int32)) ∈ gt := List.mem_filter.mpr ⟨in_4 (List.mem_of_getElem? (i := 25) rfl), rfl⟩
set_option maxRecDepth 10000 in
theorem lk_746 : (Jvm.Cond.constant "java/lang/Integer" (267 : Nat) (252645135 : Int32)) ∈ gt := List.mem_filter.mpr ⟨in_4 (List.mem_of_getElem? (i := 26) rfl), rfl⟩
set_option maxRecDepth 10000 in
theorem lk_747 : (Jvm.Cond.methodLink "LawfulLots$Chart" (189 : Nat) ({ cls := "java/lang/Integer", name := "lowestOneBit", desc := "(I)I" } : Jvm.MethodName)) ∈ gt := List.mem_filter.mpr ⟨in_4 (List.mem_of_getElem? (i := 27) rfl), rfl⟩
set_option maxRecDepth 10000 in
theorem lk_748 : (Jvm.Cond.static ({ cls := "java/lang/Integer", name := "lowestOneBit", desc := "(I)I" } : Jvm.MethodName)) ∈ gt := List.mem_filter.mpr ⟨in_4 (List.mem_of_getElem? (i := 28) rfl), rfl⟩
set_option maxRecDepth 10000 in
theorem lk_749 : (Jvm.Cond.code ({ cls := "java/lang/Integer", name := "lowestOneBit", desc := "(I)I" } : Jvm.MethodName) prog_12_method_46_code (1 : Nat) (Option.some Jvm.ClassFile.FieldType.int)) ∈ gt := List.mem_filter.mpr ⟨in_4 (List.mem_of_getElem? (i := 29) rfl), rfl⟩
set_option maxRecDepth 10000 in
theorem lk_750 : (Jvm.Cond.methodLink "LawfulLotsLaw" (73 : Nat) ({ cls := "LawfulLots", name := "alone", desc := "(I)I" } : Jvm.MethodName)) ∈ gt := List.mem_filter.mpr ⟨in_4 (List.mem_of_getElem? (i := 30) rfl), rfl⟩
set_option maxRecDepth 10000 in
theorem lk_751 : (Jvm.Cond.instanceMethod ({ cls := "LawfulLots", name := "alone", desc := "(I)I" } : Jvm.MethodName)) ∈ gt := List.mem_filter.mpr ⟨in_4 (List.mem_of_getElem? (i := 31) rfl), rfl⟩
set_option maxRecDepth 10000 in
theorem lk_752 : (Jvm.Cond.selects "LawfulLots" ({ cls := "LawfulLots", name := "alone", desc := "(I)I" } : Jvm.MethodName) ({ cls := "LawfulLots", name := "alone", desc := "(I)I" } : Jvm.MethodName)) ∈ gt := List.mem_filter.mpr ⟨in_4 (List.mem_of_getElem? (i := 32) rfl), rfl⟩
set_option maxRecDepth 10000 in
theorem lk_753 : (Jvm.Cond.code ({ cls := "LawfulLots", name := "alone", desc := "(I)I" } : Jvm.MethodName) prog_1_method_17_code (2 : Nat) (Option.some Jvm.ClassFile.FieldType.int)) ∈ gt := List.mem_filter.mpr ⟨in_4 (List.mem_of_getElem? (i := 33) rfl), rfl⟩
set_option maxRecDepth 10000 in
theorem lk_754 : (Jvm.Cond.methodLink "LawfulLots" (142 : Nat) ({ cls := "LawfulLots$Chart", name := "refusedByAlone", desc := "(I)I" } : Jvm.MethodName)) ∈ gt := List.mem_filter.mpr ⟨in_4 (List.mem_of_getElem? (i := 34) rfl), rfl⟩
set_option maxRecDepth 10000 in
theorem lk_755 : (Jvm.Cond.instanceMethod ({ cls := "LawfulLots$Chart", name := "refusedByAlone", desc := "(I)I" } : Jvm.MethodName)) ∈ gt := List.mem_filter.mpr ⟨in_4 (List.mem_of_getElem? (i := 35) rfl), rfl⟩
set_option maxRecDepth 10000 in
theorem lk_756 : (Jvm.Cond.selects "LawfulLots$Chart" ({ cls := "LawfulLots$Chart", name := "refusedByAlone", desc := "(I)I" } : Jvm.MethodName) ({ cls := "LawfulLots$Chart", name := "refusedByAlone", desc := "(I)I" } : Jvm.MethodName)) ∈ gt := List.mem_filter.mpr ⟨in_4 (List.mem_of_getElem? (i := 36) rfl), rfl⟩
set_option maxRecDepth 10000 in
theorem lk_757 : (Jvm.Cond.code ({ cls := "LawfulLots$Chart", name := "refusedByAlone", desc := "(I)I" } : Jvm.MethodName) prog_5_method_27_code (2 : Nat) (Option.some Jvm.ClassFile.FieldType.int)) ∈ gt := List.mem_filter.mpr ⟨in_4 (List.mem_of_getElem? (i := 37) rfl), rfl⟩
set_option maxRecDepth 10000 in
theorem lk_758 : (Jvm.Cond.methodLink "LawfulLotsLaw" (77 : Nat) ({ cls := "LawfulLots", name := "meets", desc := "(I)I" } : Jvm.MethodName)) ∈ gt := List.mem_filter.mpr ⟨in_4 (List.mem_of_getElem? (i := 38) rfl), rfl⟩
set_option maxRecDepth 10000 in
theorem lk_759 : (Jvm.Cond.instanceMethod ({ cls := "LawfulLots", name := "meets", desc := "(I)I" } : Jvm.MethodName)) ∈ gt := List.mem_filter.mpr ⟨in_4 (List.mem_of_getElem? (i := 39) rfl), rfl⟩
set_option maxRecDepth 10000 in
theorem lk_760 : (Jvm.Cond.selects "LawfulLots" ({ cls := "LawfulLots", name := "meets", desc := "(I)I" } : Jvm.MethodName) ({ cls := "LawfulLots", name := "meets", desc := "(I)I" } : Jvm.MethodName)) ∈ gt := List.mem_filter.mpr ⟨in_4 (List.mem_of_getElem? (i := 40) rfl), rfl⟩
set_option maxRecDepth 10000 in
theorem lk_761 : (Jvm.Cond.code ({ cls := "LawfulLots", name := "meets", desc := "(I)I" } : Jvm.MethodName) prog_1_method_18_code (2 : Nat) (Option.some Jvm.ClassFile.FieldType.int)) ∈ gt := List.mem_filter.mpr ⟨in_4 (List.mem_of_getElem? (i := 41) rfl), rfl⟩
set_option maxRecDepth 10000 in
theorem lk_762 : (Jvm.Cond.methodLink "LawfulLots" (145 : Nat) ({ cls := "LawfulLots", name := "refreshBins", desc := "()V" } : Jvm.MethodName)) ∈ gt := List.mem_filter.mpr ⟨in_4 (List.mem_of_getElem? (i := 42) rfl), rfl⟩
set_option maxRecDepth 10000 in
theorem lk_764 : (Jvm.Cond.instanceMethod ({ cls := "LawfulLots", name := "refreshBins", desc := "()V" } : Jvm.MethodName)) ∈ gt := List.mem_filter.mpr ⟨in_4 (List.mem_of_getElem? (i := 44) rfl), rfl⟩
set_option maxRecDepth 10000 in
theorem lk_765 : (Jvm.Cond.code ({ cls := "LawfulLots", name := "refreshBins", desc := "()V" } : Jvm.MethodName) prog_1_method_20_code (1 : Nat) (Option.none : Option Jvm.ClassFile.FieldType)) ∈ gt := List.mem_filter.mpr ⟨in_4 (List.mem_of_getElem? (i := 45) rfl), rfl⟩
set_option maxRecDepth 10000 in
theorem lk_766 : (Jvm.Cond.methodLink "LawfulLots" (151 : Nat) ({ cls := "LawfulLots$Chart", name := "refreshBins", desc := "()V" } : Jvm.MethodName)) ∈ gt := List.mem_filter.mpr ⟨in_4 (List.mem_of_getElem? (i := 46) rfl), rfl⟩
set_option maxRecDepth 10000 in
theorem lk_767 : (Jvm.Cond.instanceMethod ({ cls := "LawfulLots$Chart", name := "refreshBins", desc := "()V" } : Jvm.MethodName)) ∈ gt := List.mem_filter.mpr ⟨in_4 (List.mem_of_getElem? (i := 47) rfl), rfl⟩
set_option maxRecDepth 10000 in
theorem lk_768 : (Jvm.Cond.selects "LawfulLots$Chart" ({ cls := "LawfulLots$Chart", name := "refreshBins", desc := "()V" } : Jvm.MethodName) ({ cls := "LawfulLots$Chart", name := "refreshBins", desc := "()V" } : Jvm.MethodName)) ∈ gt := List.mem_filter.mpr ⟨in_4 (List.mem_of_getElem? (i := 48) rfl), rfl⟩
set_option maxRecDepth 10000 in
theorem lk_769 : (Jvm.Cond.code ({ cls := "LawfulLots$Chart", name := "refreshBins", desc := "()V" } : Jvm.MethodName) prog_5_method_19_code (1 : Nat) (Option.none : Option Jvm.ClassFile.FieldType)) ∈ gt := List.mem_filter.mpr ⟨in_4 (List.mem_of_getElem? (i := 49) rfl), rfl⟩
set_option maxRecDepth 10000 in
theorem lk_770 : (Jvm.Cond.methodLink "LawfulLots" (152 : Nat) ({ cls := "LawfulLots$BinTable", name := "refresh", desc := "(LLawfulLots$Chart;)V" } : Jvm.MethodName)) ∈ gt := List.mem_filter.mpr ⟨in_4 (List.mem_of_getElem? (i := 50) rfl), rfl⟩
set_option maxRecDepth 10000 in
theorem lk_771 : (Jvm.Cond.instanceMethod ({ cls := "LawfulLots$BinTable", name := "refresh", desc := "(LLawfulLots$Chart;)V" } : Jvm.MethodName)) ∈ gt := List.mem_filter.mpr ⟨in_4 (List.mem_of_getElem? (i := 51) rfl), rfl⟩
set_option maxRecDepth 10000 in
theorem lk_772 : (Jvm.Cond.selects "LawfulLots$BinTable" ({ cls := "LawfulLots$BinTable", name := "refresh", desc := "(LLawfulLots$Chart;)V" } : Jvm.MethodName) ({ cls := "LawfulLots$BinTable", name := "refresh", desc := "(LLawfulLots$Chart;)V" } : Jvm.MethodName)) ∈ gt := List.mem_filter.mpr ⟨in_4 (List.mem_of_getElem? (i := 52) rfl), rfl⟩
set_option maxRecDepth 10000 in
theorem lk_773 : (Jvm.Cond.code ({ cls := "LawfulLots$BinTable", name := "refresh", desc := "(LLawfulLots$Chart;)V" } : Jvm.MethodName) prog_2_method_3_code (4 : Nat) (Option.none : Option Jvm.ClassFile.FieldType)) ∈ gt := List.mem_filter.mpr ⟨in_4 (List.mem_of_getElem? (i := 53) rfl), rfl⟩
set_option maxRecDepth 10000 in
theorem lk_774 : (Jvm.Cond.methodLink "LawfulLots$BinTable" (47 : Nat) ({ cls := "java/util/Arrays", name := "fill", desc := "([II)V" } : Jvm.MethodName)) ∈ gt := List.mem_filter.mpr ⟨in_4 (List.mem_of_getElem? (i := 54) rfl), rfl⟩
set_option maxRecDepth 10000 in
theorem lk_775 : (Jvm.Cond.methodLink "LawfulLots$BinTable" (58 : Nat) ({ cls := "LawfulLots$Chart", name := "inputOf", desc := "(I)I" } : Jvm.MethodName)) ∈ gt := List.mem_filter.mpr ⟨in_4 (List.mem_of_getElem? (i := 55) rfl), rfl⟩
set_option maxRecDepth 10000 in
theorem lk_776 : (Jvm.Cond.methodLink "LawfulLots$BinTable" (62 : Nat) ({ cls := "LawfulLots$Chart", name := "binsOf", desc := "(I)I" } : Jvm.MethodName)) ∈ gt := List.mem_filter.mpr ⟨in_4 (List.mem_of_getElem? (i := 56) rfl), rfl⟩
set_option maxRecDepth 10000 in
theorem lk_777 : (Jvm.Cond.instanceMethod ({ cls := "LawfulLots$Chart", name := "binsOf", desc := "(I)I" } : Jvm.MethodName)) ∈ gt := List.mem_filter.mpr ⟨in_4 (List.mem_of_getElem? (i := 57) rfl), rfl⟩
set_option maxRecDepth 10000 in
theorem lk_778 : (Jvm.Cond.selects "LawfulLots$Chart" ({ cls := "LawfulLots$Chart", name := "binsOf", desc := "(I)I" } : Jvm.MethodName) ({ cls := "LawfulLots$Chart", name := "binsOf", desc := "(I)I" } : Jvm.MethodName)) ∈ gt := List.mem_filter.mpr ⟨in_4 (List.mem_of_getElem? (i := 58) rfl), rfl⟩
set_option maxRecDepth 10000 in
theorem lk_779 : (Jvm.Cond.code ({ cls := "LawfulLots$Chart", name := "binsOf", desc := "(I)I" } : Jvm.MethodName) prog_5_method_16_code (2 : Nat) (Option.some Jvm.ClassFile.FieldType.int)) ∈ gt := List.mem_filter.mpr ⟨in_4 (List.mem_of_getElem? (i := 59) rfl), rfl⟩
set_option maxRecDepth 10000 in
theorem lk_780 : (Jvm.Cond.methodLink "LawfulLots$BinTable" (69 : Nat) ({ cls := "LawfulLots$Book", name := "toldOf", desc := "(I)I" } : Jvm.MethodName)) ∈ gt := List.mem_filter.mpr ⟨in_4 (List.mem_of_getElem? (i := 60) rfl), rfl⟩
set_option maxRecDepth 10000 in
theorem lk_781 : (Jvm.Cond.methodLinkNest "LawfulLots$BinTable" (74 : Nat) ({ cls := "LawfulLots", name := "addSupersets", desc := "([II)V" } : Jvm.MethodName) "LawfulLots") ∈ nw := List.mem_of_getElem? (i := 12) rfl
set_option maxRecDepth 10000 in
theorem lk_782 : (Jvm.Cond.methodLink "LawfulLots" (148 : Nat) ({ cls := "LawfulLots$BinTable", name := "meetingAll", desc := "(I)I" } : Jvm.MethodName)) ∈ gt := List.mem_filter.mpr ⟨in_4 (List.mem_of_getElem? (i := 62) rfl), rfl⟩
set_option maxRecDepth 10000 in
theorem lk_783 : (Jvm.Cond.instanceMethod ({ cls := "LawfulLots$BinTable", name := "meetingAll", desc := "(I)I" } : Jvm.MethodName)) ∈ gt := List.mem_filter.mpr ⟨in_4 (List.mem_of_getElem? (i := 63) rfl), rfl⟩
set_option maxRecDepth 10000 in
theorem lk_784 : (Jvm.Cond.selects "LawfulLots$BinTable" ({ cls := "LawfulLots$BinTable", name := "meetingAll", desc := "(I)I" } : Jvm.MethodName) ({ cls := "LawfulLots$BinTable", name := "meetingAll", desc := "(I)I" } : Jvm.MethodName)) ∈ gt := List.mem_filter.mpr ⟨in_4 (List.mem_of_getElem? (i := 64) rfl), rfl⟩
set_option maxRecDepth 10000 in
theorem lk_785 : (Jvm.Cond.code ({ cls := "LawfulLots$BinTable", name := "meetingAll", desc := "(I)I" } : Jvm.MethodName) prog_2_method_6_code (2 : Nat) (Option.some Jvm.ClassFile.FieldType.int)) ∈ gt := List.mem_filter.mpr ⟨in_4 (List.mem_of_getElem? (i := 65) rfl), rfl⟩
set_option maxRecDepth 10000 in
theorem lk_786 : (Jvm.Cond.methodLink "LawfulLotsLaw" (81 : Nat) ({ cls := "LawfulLots", name := "cross", desc := "(II)I" } : Jvm.MethodName)) ∈ gt := List.mem_filter.mpr ⟨in_4 (List.mem_of_getElem? (i := 66) rfl), rfl⟩
set_option maxRecDepth 10000 in
theorem lk_787 : (Jvm.Cond.instanceMethod ({ cls := "LawfulLots", name := "cross", desc := "(II)I" } : Jvm.MethodName)) ∈ gt := List.mem_filter.mpr ⟨in_4 (List.mem_of_getElem? (i := 67) rfl), rfl⟩
set_option maxRecDepth 10000 in
theorem lk_788 : (Jvm.Cond.selects "LawfulLots" ({ cls := "LawfulLots", name := "cross", desc := "(II)I" } : Jvm.MethodName) ({ cls := "LawfulLots", name := "cross", desc := "(II)I" } : Jvm.MethodName)) ∈ gt := List.mem_filter.mpr ⟨in_4 (List.mem_of_getElem? (i := 68) rfl), rfl⟩
set_option maxRecDepth 10000 in
theorem lk_789 : (Jvm.Cond.code ({ cls := "LawfulLots", name := "cross", desc := "(II)I" } : Jvm.MethodName) prog_1_method_19_code (3 : Nat) (Option.some Jvm.ClassFile.FieldType.int)) ∈ gt := List.mem_filter.mpr ⟨in_4 (List.mem_of_getElem? (i := 69) rfl), rfl⟩
set_option maxRecDepth 10000 in
theorem lk_790 : (Jvm.Cond.methodLink "LawfulLotsLaw" (85 : Nat) ({ cls := "LawfulLots", name := "hits", desc := "(I)I" } : Jvm.MethodName)) ∈ gt := List.mem_filter.mpr ⟨in_4 (List.mem_of_getElem? (i := 70) rfl), rfl⟩
set_option maxRecDepth 10000 in
theorem lk_791 : (Jvm.Cond.instanceMethod ({ cls := "LawfulLots", name := "hits", desc := "(I)I" } : Jvm.MethodName)) ∈ gt := List.mem_filter.mpr ⟨in_4 (List.mem_of_getElem? (i := 71) rfl), rfl⟩
set_option maxRecDepth 10000 in
theorem lk_792 : (Jvm.Cond.selects "LawfulLots" ({ cls := "LawfulLots", name := "hits", desc := "(I)I" } : Jvm.MethodName) ({ cls := "LawfulLots", name := "hits", desc := "(I)I" } : Jvm.MethodName)) ∈ gt := List.mem_filter.mpr ⟨in_4 (List.mem_of_getElem? (i := 72) rfl), rfl⟩
set_option maxRecDepth 10000 in
theorem lk_793 : (Jvm.Cond.code ({ cls := "LawfulLots", name := "hits", desc := "(I)I" } : Jvm.MethodName) prog_1_method_21_code (2 : Nat) (Option.some Jvm.ClassFile.FieldType.int)) ∈ gt := List.mem_filter.mpr ⟨in_4 (List.mem_of_getElem? (i := 73) rfl), rfl⟩
set_option maxRecDepth 10000 in
theorem lk_794 : (Jvm.Cond.methodLink "LawfulLots" (155 : Nat) ({ cls := "LawfulLots$Log", name := "meeting", desc := "(LLawfulLots$Chart;I)I" } : Jvm.MethodName)) ∈ gt := List.mem_filter.mpr ⟨in_4 (List.mem_of_getElem? (i := 74) rfl), rfl⟩
set_option maxRecDepth 10000 in
theorem lk_795 : (Jvm.Cond.instanceMethod ({ cls := "LawfulLots$Log", name := "meeting", desc := "(LLawfulLots$Chart;I)I" } : Jvm.MethodName)) ∈ gt := List.mem_filter.mpr ⟨in_4 (List.mem_of_getElem? (i := 75) rfl), rfl⟩
set_option maxRecDepth 10000 in
theorem lk_796 : (Jvm.Cond.selects "LawfulLots$Log" ({ cls := "LawfulLots$Log", name := "meeting", desc := "(LLawfulLots$Chart;I)I" } : Jvm.MethodName) ({ cls := "LawfulLots$Log", name := "meeting", desc := "(LLawfulLots$Chart;I)I" } : Jvm.MethodName)) ∈ gt := List.mem_filter.mpr ⟨in_4 (List.mem_of_getElem? (i := 76) rfl), rfl⟩
set_option maxRecDepth 10000 in
theorem lk_797 : (Jvm.Cond.code ({ cls := "LawfulLots$Log", name := "meeting", desc := "(LLawfulLots$Chart;I)I" } : Jvm.MethodName) prog_6_method_4_code (5 : Nat) (Option.some Jvm.ClassFile.FieldType.int)) ∈ gt := List.mem_filter.mpr ⟨in_4 (List.mem_of_getElem? (i := 77) rfl), rfl⟩
set_option maxRecDepth 10000 in
theorem lk_798 : (Jvm.Cond.methodLink "LawfulLots$Log" (19 : Nat) ({ cls := "LawfulLots$Log", name := "inputOf", desc := "(I)I" } : Jvm.MethodName)) ∈ gt := List.mem_filter.mpr ⟨in_4 (List.mem_of_getElem? (i := 78) rfl), rfl⟩
set_option maxRecDepth 10000 in
theorem lk_799 : (Jvm.Cond.instanceMethod ({ cls := "LawfulLots$Log", name := "inputOf", desc := "(I)I" } : Jvm.MethodName)) ∈ gt := List.mem_filter.mpr ⟨in_4 (List.mem_of_getElem? (i := 79) rfl), rfl⟩
set_option maxRecDepth 10000 in
theorem lk_800 : (Jvm.Cond.selects "LawfulLots$Log" ({ cls := "LawfulLots$Log", name := "inputOf", desc := "(I)I" } : Jvm.MethodName) ({ cls := "LawfulLots$Log", name := "inputOf", desc := "(I)I" } : Jvm.MethodName)) ∈ gt := List.mem_filter.mpr ⟨in_4 (List.mem_of_getElem? (i := 80) rfl), rfl⟩
set_option maxRecDepth 10000 in
theorem lk_801 : (Jvm.Cond.code ({ cls := "LawfulLots$Log", name := "inputOf", desc := "(I)I" } : Jvm.MethodName) prog_6_method_3_code (2 : Nat) (Option.some Jvm.ClassFile.FieldType.int)) ∈ gt := List.mem_filter.mpr ⟨in_4 (List.mem_of_getElem? (i := 81) rfl), rfl⟩
set_option maxRecDepth 10000 in
theorem lk_802 : (Jvm.Cond.methodLink "LawfulLots$Log" (23 : Nat) ({ cls := "LawfulLots$Chart", name := "binsOf", desc := "(I)I" } : Jvm.MethodName)) ∈ gt := List.mem_filter.mpr ⟨in_4 (List.mem_of_getElem? (i := 82) rfl), rfl⟩
set_option maxRecDepth 10000 in
theorem lk_803 : (Jvm.Cond.methodLink "LawfulLotsLaw" (89 : Nat) ({ cls := "LawfulLots", name := "fill", desc := "()I" } : Jvm.MethodName)) ∈ gt := List.mem_filter.mpr ⟨in_4 (List.mem_of_getElem? (i := 83) rfl), rfl⟩
set_option maxRecDepth 10000 in
theorem lk_804 : (Jvm.Cond.instanceMethod ({ cls := "LawfulLots", name := "fill", desc := "()I" } : Jvm.MethodName)) ∈ gt := List.mem_filter.mpr ⟨in_4 (List.mem_of_getElem? (i := 84) rfl), rfl⟩
set_option maxRecDepth 10000 in
theorem lk_805 : (Jvm.Cond.selects "LawfulLots" ({ cls := "LawfulLots", name := "fill", desc := "()I" } : Jvm.MethodName) ({ cls := "LawfulLots", name := "fill", desc := "()I" } : Jvm.MethodName)) ∈ gt := List.mem_filter.mpr ⟨in_4 (List.mem_of_getElem? (i := 85) rfl), rfl⟩
set_option maxRecDepth 10000 in
theorem lk_806 : (Jvm.Cond.code ({ cls := "LawfulLots", name := "fill", desc := "()I" } : Jvm.MethodName) prog_1_method_22_code (1 : Nat) (Option.some Jvm.ClassFile.FieldType.int)) ∈ gt := List.mem_filter.mpr ⟨in_4 (List.mem_of_getElem? (i := 86) rfl), rfl⟩
set_option maxRecDepth 10000 in
theorem lk_807 : (Jvm.Cond.methodLink "LawfulLots" (159 : Nat) ({ cls := "LawfulLots$BinTable", name := "plan", desc := "(LLawfulLots$Chart;LLawfulLots$Log;)V" } : Jvm.MethodName)) ∈ gt := List.mem_filter.mpr ⟨in_4 (List.mem_of_getElem? (i := 87) rfl), rfl⟩
set_option maxRecDepth 10000 in
theorem lk_808 : (Jvm.Cond.instanceMethod ({ cls := "LawfulLots$BinTable", name := "plan", desc := "(LLawfulLots$Chart;LLawfulLots$Log;)V" } : Jvm.MethodName)) ∈ gt := List.mem_filter.mpr ⟨in_4 (List.mem_of_getElem? (i := 88) rfl), rfl⟩
set_option maxRecDepth 10000 in
theorem lk_809 : (Jvm.Cond.selects "LawfulLots$BinTable" ({ cls := "LawfulLots$BinTable", name := "plan", desc := "(LLawfulLots$Chart;LLawfulLots$Log;)V" } : Jvm.MethodName) ({ cls := "LawfulLots$BinTable", name := "plan", desc := "(LLawfulLots$Chart;LLawfulLots$Log;)V" } : Jvm.MethodName)) ∈ gt := List.mem_filter.mpr ⟨in_4 (List.mem_of_getElem? (i := 89) rfl), rfl⟩
set_option maxRecDepth 10000 in
theorem lk_810 : (Jvm.Cond.code ({ cls := "LawfulLots$BinTable", name := "plan", desc := "(LLawfulLots$Chart;LLawfulLots$Log;)V" } : Jvm.MethodName) prog_2_method_9_code (5 : Nat) (Option.none : Option Jvm.ClassFile.FieldType)) ∈ gt := List.mem_filter.mpr ⟨in_4 (List.mem_of_getElem? (i := 90) rfl), rfl⟩
set_option maxRecDepth 10000 in
theorem lk_811 : (Jvm.Cond.methodLink "LawfulLots$BinTable" (90 : Nat) ({ cls := "LawfulLots$Log", name := "unmet", desc := "(LLawfulLots$Chart;)I" } : Jvm.MethodName)) ∈ gt := List.mem_filter.mpr ⟨in_4 (List.mem_of_getElem? (i := 91) rfl), rfl⟩
set_option maxRecDepth 10000 in
theorem lk_812 : (Jvm.Cond.instanceMethod ({ cls := "LawfulLots$Log", name := "unmet", desc := "(LLawfulLots$Chart;)I" } : Jvm.MethodName)) ∈ gt := List.mem_filter.mpr ⟨in_4 (List.mem_of_getElem? (i := 92) rfl), rfl⟩
set_option maxRecDepth 10000 in
theorem lk_813 : (Jvm.Cond.selects "LawfulLots$Log" ({ cls := "LawfulLots$Log", name := "unmet", desc := "(LLawfulLots$Chart;)I" } : Jvm.MethodName) ({ cls := "LawfulLots$Log", name := "unmet", desc := "(LLawfulLots$Chart;)I" } : Jvm.MethodName)) ∈ gt := List.mem_filter.mpr ⟨in_4 (List.mem_of_getElem? (i := 93) rfl), rfl⟩
set_option maxRecDepth 10000 in
theorem lk_814 : (Jvm.Cond.code ({ cls := "LawfulLots$Log", name := "unmet", desc := "(LLawfulLots$Chart;)I" } : Jvm.MethodName) prog_6_method_5_code (4 : Nat) (Option.some Jvm.ClassFile.FieldType.int)) ∈ gt := List.mem_filter.mpr ⟨in_4 (List.mem_of_getElem? (i := 94) rfl), rfl⟩
set_option maxRecDepth 10000 in
theorem lk_815 : (Jvm.Cond.methodLink "LawfulLots$BinTable" (96 : Nat) ({ cls := "LawfulLots$BinTable", name := "meetingAll", desc := "(I)I" } : Jvm.MethodName)) ∈ gt := List.mem_filter.mpr ⟨in_4 (List.mem_of_getElem? (i := 95) rfl), rfl⟩
set_option maxRecDepth 10000 in
theorem lk_816 : (Jvm.Cond.methodLink "LawfulLots$BinTable" (99 : Nat) ({ cls := "LawfulLots$BinTable", name := "fewestFor", desc := "(I)I" } : Jvm.MethodName)) ∈ gt := List.mem_filter.mpr ⟨in_4 (List.mem_of_getElem? (i := 96) rfl), rfl⟩
set_option maxRecDepth 10000 in
theorem lk_818 : (Jvm.Cond.instanceMethod ({ cls := "LawfulLots$BinTable", name := "fewestFor", desc := "(I)I" } : Jvm.MethodName)) ∈ gt := List.mem_filter.mpr ⟨in_4 (List.mem_of_getElem? (i := 98) rfl), rfl⟩
set_option maxRecDepth 10000 in
theorem lk_819 : (Jvm.Cond.code ({ cls := "LawfulLots$BinTable", name := "fewestFor", desc := "(I)I" } : Jvm.MethodName) prog_2_method_10_code (5 : Nat) (Option.some Jvm.ClassFile.FieldType.int)) ∈ gt := List.mem_filter.mpr ⟨in_4 (List.mem_of_getElem? (i := 99) rfl), rfl⟩
set_option maxRecDepth 10000 in
theorem lk_820 : (Jvm.Cond.methodLink "LawfulLots$BinTable" (102 : Nat) ({ cls := "java/lang/Integer", name := "lowestOneBit", desc := "(I)I" } : Jvm.MethodName)) ∈ gt := List.mem_filter.mpr ⟨in_4 (List.mem_of_getElem? (i := 100) rfl), rfl⟩
set_option maxRecDepth 10000 in
theorem lk_821 : (Jvm.Cond.constant "LawfulLots$BinTable" (77 : Nat) (1000000 : Int32)) ∈ gt := List.mem_filter.mpr ⟨in_4 (List.mem_of_getElem? (i := 101) rfl), rfl⟩
set_option maxRecDepth 10000 in
theorem lk_822 : (Jvm.Cond.methodLink "LawfulLots$BinTable" (105 : Nat) ({ cls := "java/lang/Math", name := "min", desc := "(II)I" } : Jvm.MethodName)) ∈ gt := List.mem_filter.mpr ⟨in_4 (List.mem_of_getElem? (i := 102) rfl), rfl⟩
set_option maxRecDepth 10000 in
theorem lk_823 : (Jvm.Cond.methodLink "LawfulLots" (163 : Nat) ({ cls := "LawfulLots$BinTable", name := "planSize", desc := "()I" } : Jvm.MethodName)) ∈ gt := List.mem_filter.mpr ⟨in_4 (List.mem_of_getElem? (i := 103) rfl), rfl⟩
set_option maxRecDepth 10000 in
theorem lk_824 : (Jvm.Cond.instanceMethod ({ cls := "LawfulLots$BinTable", name := "planSize", desc := "()I" } : Jvm.MethodName)) ∈ gt := List.mem_filter.mpr ⟨in_4 (List.mem_of_getElem? (i := 104) rfl), rfl⟩
set_option maxRecDepth 10000 in
theorem lk_825 : (Jvm.Cond.selects "LawfulLots$BinTable" ({ cls := "LawfulLots$BinTable", name := "planSize", desc := "()I" } : Jvm.MethodName) ({ cls := "LawfulLots$BinTable", name := "planSize", desc := "()I" } : Jvm.MethodName)) ∈ gt := List.mem_filter.mpr ⟨in_4 (List.mem_of_getElem? (i := 105) rfl), rfl⟩
set_option maxRecDepth 10000 in
theorem lk_826 : (Jvm.Cond.code ({ cls := "LawfulLots$BinTable", name := "planSize", desc := "()I" } : Jvm.MethodName) prog_2_method_11_code (1 : Nat) (Option.some Jvm.ClassFile.FieldType.int)) ∈ gt := List.mem_filter.mpr ⟨in_4 (List.mem_of_getElem? (i := 106) rfl), rfl⟩
set_option maxRecDepth 10000 in
theorem lk_827 : (Jvm.Cond.methodLink "LawfulLotsLaw" (93 : Nat) ({ cls := "LawfulLots", name := "fills", desc := "(I)I" } : Jvm.MethodName)) ∈ gt := List.mem_filter.mpr ⟨in_4 (List.mem_of_getElem? (i := 107) rfl), rfl⟩
set_option maxRecDepth 10000 in
theorem lk_828 : (Jvm.Cond.instanceMethod ({ cls := "LawfulLots", name := "fills", desc := "(I)I" } : Jvm.MethodName)) ∈ gt := List.mem_filter.mpr ⟨in_4 (List.mem_of_getElem? (i := 108) rfl), rfl⟩
set_option maxRecDepth 10000 in
theorem lk_829 : (Jvm.Cond.selects "LawfulLots" ({ cls := "LawfulLots", name := "fills", desc := "(I)I" } : Jvm.MethodName) ({ cls := "LawfulLots", name := "fills", desc := "(I)I" } : Jvm.MethodName)) ∈ gt := List.mem_filter.mpr ⟨in_4 (List.mem_of_getElem? (i := 109) rfl), rfl⟩
set_option maxRecDepth 10000 in
theorem lk_830 : (Jvm.Cond.code ({ cls := "LawfulLots", name := "fills", desc := "(I)I" } : Jvm.MethodName) prog_1_method_23_code (2 : Nat) (Option.some Jvm.ClassFile.FieldType.int)) ∈ gt := List.mem_filter.mpr ⟨in_4 (List.mem_of_getElem? (i := 110) rfl), rfl⟩
set_option maxRecDepth 10000 in
theorem lk_831 : (Jvm.Cond.methodLink "LawfulLots" (166 : Nat) ({ cls := "LawfulLots$BinTable", name := "planMember", desc := "(I)I" } : Jvm.MethodName)) ∈ gt := List.mem_filter.mpr ⟨in_4 (List.mem_of_getElem? (i := 111) rfl), rfl⟩
set_option maxRecDepth 10000 in
theorem lk_832 : (Jvm.Cond.instanceMethod ({ cls := "LawfulLots$BinTable", name := "planMember", desc := "(I)I" } : Jvm.MethodName)) ∈ gt := List.mem_filter.mpr ⟨in_4 (List.mem_of_getElem? (i := 112) rfl), rfl⟩
set_option maxRecDepth 10000 in
theorem lk_833 : (Jvm.Cond.selects "LawfulLots$BinTable" ({ cls := "LawfulLots$BinTable", name := "planMember", desc := "(I)I" } : Jvm.MethodName) ({ cls := "LawfulLots$BinTable", name := "planMember", desc := "(I)I" } : Jvm.MethodName)) ∈ gt := List.mem_filter.mpr ⟨in_4 (List.mem_of_getElem? (i := 113) rfl), rfl⟩
set_option maxRecDepth 10000 in
theorem lk_834 : (Jvm.Cond.code ({ cls := "LawfulLots$BinTable", name := "planMember", desc := "(I)I" } : Jvm.MethodName) prog_2_method_12_code (6 : Nat) (Option.some Jvm.ClassFile.FieldType.int)) ∈ gt := List.mem_filter.mpr ⟨in_4 (List.mem_of_getElem? (i := 114) rfl), rfl⟩
set_option maxRecDepth 10000 in
theorem lk_835 : (Jvm.Cond.methodLink "LawfulLots$BinTable" (111 : Nat) ({ cls := "LawfulLots$BinTable", name := "planSize", desc := "()I" } : Jvm.MethodName)) ∈ gt := List.mem_filter.mpr ⟨in_4 (List.mem_of_getElem? (i := 115) rfl), rfl⟩
set_option maxRecDepth 10000 in
theorem lk_836 : (Jvm.Cond.methodLink "LawfulLots$BinTable" (115 : Nat) ({ cls := "LawfulLots$BinTable", name := "leastStep", desc := "(I)I" } : Jvm.MethodName)) ∈ gt := List.mem_filter.mpr ⟨in_4 (List.mem_of_getElem? (i := 116) rfl), rfl⟩
set_option maxRecDepth 10000 in
theorem lk_838 : (Jvm.Cond.instanceMethod ({ cls := "LawfulLots$BinTable", name := "leastStep", desc := "(I)I" } : Jvm.MethodName)) ∈ gt := List.mem_filter.mpr ⟨in_4 (List.mem_of_getElem? (i := 118) rfl), rfl⟩
set_option maxRecDepth 10000 in
theorem lk_839 : (Jvm.Cond.code ({ cls := "LawfulLots$BinTable", name := "leastStep", desc := "(I)I" } : Jvm.MethodName) prog_2_method_13_code (4 : Nat) (Option.some Jvm.ClassFile.FieldType.int)) ∈ gt := List.mem_filter.mpr ⟨in_4 (List.mem_of_getElem? (i := 119) rfl), rfl⟩
set_option maxRecDepth 10000 in
theorem lk_840 : (Jvm.Cond.methodLink "LawfulLotsLaw" (97 : Nat) ({ cls := "LawfulLots", name := "best", desc := "()I" } : Jvm.MethodName)) ∈ gt := List.mem_filter.mpr ⟨in_4 (List.mem_of_getElem? (i := 120) rfl), rfl⟩
set_option maxRecDepth 10000 in
theorem lk_841 : (Jvm.Cond.instanceMethod ({ cls := "LawfulLots", name := "best", desc := "()I" } : Jvm.MethodName)) ∈ gt := List.mem_filter.mpr ⟨in_4 (List.mem_of_getElem? (i := 121) rfl), rfl⟩
set_option maxRecDepth 10000 in
theorem lk_842 : (Jvm.Cond.selects "LawfulLots" ({ cls := "LawfulLots", name := "best", desc := "()I" } : Jvm.MethodName) ({ cls := "LawfulLots", name := "best", desc := "()I" } : Jvm.MethodName)) ∈ gt := List.mem_filter.mpr ⟨in_4 (List.mem_of_getElem? (i := 122) rfl), rfl⟩
set_option maxRecDepth 10000 in
theorem lk_843 : (Jvm.Cond.code ({ cls := "LawfulLots", name := "best", desc := "()I" } : Jvm.MethodName) prog_1_method_24_code (1 : Nat) (Option.some Jvm.ClassFile.FieldType.int)) ∈ gt := List.mem_filter.mpr ⟨in_4 (List.mem_of_getElem? (i := 123) rfl), rfl⟩
set_option maxRecDepth 10000 in
theorem lk_844 : (Jvm.Cond.methodLink "LawfulLots" (169 : Nat) ({ cls := "LawfulLots$Log", name := "unmet", desc := "(LLawfulLots$Chart;)I" } : Jvm.MethodName)) ∈ gt := List.mem_filter.mpr ⟨in_4 (List.mem_of_getElem? (i := 124) rfl), rfl⟩
set_option maxRecDepth 10000 in
theorem lk_845 : (Jvm.Cond.methodLink "LawfulLots" (173 : Nat) ({ cls := "LawfulLots$BinTable", name := "meetingMost", desc := "(I)I" } : Jvm.MethodName)) ∈ gt := List.mem_filter.mpr ⟨in_4 (List.mem_of_getElem? (i := 125) rfl), rfl⟩
set_option maxRecDepth 10000 in
theorem lk_846 : (Jvm.Cond.instanceMethod ({ cls := "LawfulLots$BinTable", name := "meetingMost", desc := "(I)I" } : Jvm.MethodName)) ∈ gt := List.mem_filter.mpr ⟨in_4 (List.mem_of_getElem? (i := 126) rfl), rfl⟩
set_option maxRecDepth 10000 in
theorem lk_847 : (Jvm.Cond.selects "LawfulLots$BinTable" ({ cls := "LawfulLots$BinTable", name := "meetingMost", desc := "(I)I" } : Jvm.MethodName) ({ cls := "LawfulLots$BinTable", name := "meetingMost", desc := "(I)I" } : Jvm.MethodName)) ∈ gt := List.mem_filter.mpr ⟨in_4 (List.mem_of_getElem? (i := 127) rfl), rfl⟩
set_option maxRecDepth 10000 in
theorem lk_848 : (Jvm.Cond.code ({ cls := "LawfulLots$BinTable", name := "meetingMost", desc := "(I)I" } : Jvm.MethodName) prog_2_method_8_code (6 : Nat) (Option.some Jvm.ClassFile.FieldType.int)) ∈ gt := List.mem_filter.mpr ⟨in_4 (List.mem_of_getElem? (i := 128) rfl), rfl⟩
set_option maxRecDepth 10000 in
theorem lk_849 : (Jvm.Cond.methodLink "LawfulLots$BinTable" (85 : Nat) ({ cls := "java/lang/Integer", name := "bitCount", desc := "(I)I" } : Jvm.MethodName)) ∈ gt := List.mem_filter.mpr ⟨in_4 (List.mem_of_getElem? (i := 129) rfl), rfl⟩
set_option maxRecDepth 10000 in
theorem lk_850 : (Jvm.Cond.methodLink "LawfulLotsLaw" (101 : Nat) ({ cls := "LawfulLots", name := "least", desc := "(I)I" } : Jvm.MethodName)) ∈ gt := List.mem_filter.mpr ⟨in_4 (List.mem_of_getElem? (i := 130) rfl), rfl⟩
set_option maxRecDepth 10000 in
theorem lk_851 : (Jvm.Cond.instanceMethod ({ cls := "LawfulLots", name := "least", desc := "(I)I" } : Jvm.MethodName)) ∈ gt := List.mem_filter.mpr ⟨in_4 (List.mem_of_getElem? (i := 131) rfl), rfl⟩
set_option maxRecDepth 10000 in
theorem lk_852 : (Jvm.Cond.selects "LawfulLots" ({ cls := "LawfulLots", name := "least", desc := "(I)I" } : Jvm.MethodName) ({ cls := "LawfulLots", name := "least", desc := "(I)I" } : Jvm.MethodName)) ∈ gt := List.mem_filter.mpr ⟨in_4 (List.mem_of_getElem? (i := 132) rfl), rfl⟩
set_option maxRecDepth 10000 in
theorem lk_853 : (Jvm.Cond.code ({ cls := "LawfulLots", name := "least", desc := "(I)I" } : Jvm.MethodName) prog_1_method_25_code (2 : Nat) (Option.some Jvm.ClassFile.FieldType.int)) ∈ gt := List.mem_filter.mpr ⟨in_4 (List.mem_of_getElem? (i := 133) rfl), rfl⟩
set_option maxRecDepth 10000 in
theorem lk_854 : (Jvm.Cond.methodLink "LawfulLots" (176 : Nat) ({ cls := "LawfulLots$BinTable", name := "refreshLowest", desc := "(LLawfulLots$Chart;)V" } : Jvm.MethodName)) ∈ gt := List.mem_filter.mpr ⟨in_4 (List.mem_of_getElem? (i := 134) rfl), rfl⟩
set_option maxRecDepth 10000 in
theorem lk_855 : (Jvm.Cond.instanceMethod ({ cls := "LawfulLots$BinTable", name := "refreshLowest", desc := "(LLawfulLots$Chart;)V" } : Jvm.MethodName)) ∈ gt := List.mem_filter.mpr ⟨in_4 (List.mem_of_getElem? (i := 135) rfl), rfl⟩
set_option maxRecDepth 10000 in
theorem lk_856 : (Jvm.Cond.selects "LawfulLots$BinTable" ({ cls := "LawfulLots$BinTable", name := "refreshLowest", desc := "(LLawfulLots$Chart;)V" } : Jvm.MethodName) ({ cls := "LawfulLots$BinTable", name := "refreshLowest", desc := "(LLawfulLots$Chart;)V" } : Jvm.MethodName)) ∈ gt := List.mem_filter.mpr ⟨in_4 (List.mem_of_getElem? (i := 136) rfl), rfl⟩
set_option maxRecDepth 10000 in
theorem lk_857 : (Jvm.Cond.code ({ cls := "LawfulLots$BinTable", name := "refreshLowest", desc := "(LLawfulLots$Chart;)V" } : Jvm.MethodName) prog_2_method_4_code (5 : Nat) (Option.none : Option Jvm.ClassFile.FieldType)) ∈ gt := List.mem_filter.mpr ⟨in_4 (List.mem_of_getElem? (i := 137) rfl), rfl⟩
set_option maxRecDepth 10000 in
theorem lk_858 : (Jvm.Cond.methodLink "LawfulLots$BinTable" (78 : Nat) ({ cls := "LawfulLots$Book", name := "heightOf", desc := "(I)I" } : Jvm.MethodName)) ∈ gt := List.mem_filter.mpr ⟨in_4 (List.mem_of_getElem? (i := 138) rfl), rfl⟩
set_option maxRecDepth 10000 in
theorem lk_859 : (Jvm.Cond.instanceMethod ({ cls := "LawfulLots$Book", name := "heightOf", desc := "(I)I" } : Jvm.MethodName)) ∈ gt := List.mem_filter.mpr ⟨in_4 (List.mem_of_getElem? (i := 139) rfl), rfl⟩
set_option maxRecDepth 10000 in
theorem lk_860 : (Jvm.Cond.selects "LawfulLots$Book" ({ cls := "LawfulLots$Book", name := "heightOf", desc := "(I)I" } : Jvm.MethodName) ({ cls := "LawfulLots$Book", name := "heightOf", desc := "(I)I" } : Jvm.MethodName)) ∈ gt := List.mem_filter.mpr ⟨in_4 (List.mem_of_getElem? (i := 140) rfl), rfl⟩
set_option maxRecDepth 10000 in
theorem lk_861 : (Jvm.Cond.code ({ cls := "LawfulLots$Book", name := "heightOf", desc := "(I)I" } : Jvm.MethodName) prog_3_method_16_code (6 : Nat) (Option.some Jvm.ClassFile.FieldType.int)) ∈ gt := List.mem_filter.mpr ⟨in_4 (List.mem_of_getElem? (i := 141) rfl), rfl⟩
set_option maxRecDepth 10000 in
theorem lk_862 : (Jvm.Cond.methodLink "LawfulLots$BinTable" (81 : Nat) ({ cls := "LawfulLots$BinTable", name := "noteHeight", desc := "(III)V" } : Jvm.MethodName)) ∈ gt := List.mem_filter.mpr ⟨in_4 (List.mem_of_getElem? (i := 142) rfl), rfl⟩
set_option maxRecDepth 10000 in
theorem lk_864 : (Jvm.Cond.instanceMethod ({ cls := "LawfulLots$BinTable", name := "noteHeight", desc := "(III)V" } : Jvm.MethodName)) ∈ gt := List.mem_filter.mpr ⟨in_4 (List.mem_of_getElem? (i := 144) rfl), rfl⟩
set_option maxRecDepth 10000 in
theorem lk_865 : (Jvm.Cond.code ({ cls := "LawfulLots$BinTable", name := "noteHeight", desc := "(III)V" } : Jvm.MethodName) prog_2_method_5_code (5 : Nat) (Option.none : Option Jvm.ClassFile.FieldType)) ∈ gt := List.mem_filter.mpr ⟨in_4 (List.mem_of_getElem? (i := 145) rfl), rfl⟩
set_option maxRecDepth 10000 in
theorem lk_866 : (Jvm.Cond.methodLink "LawfulLots" (179 : Nat) ({ cls := "LawfulLots$BinTable", name := "lowest", desc := "(I)I" } : Jvm.MethodName)) ∈ gt := List.mem_filter.mpr ⟨in_4 (List.mem_of_getElem? (i := 146) rfl), rfl⟩
set_option maxRecDepth 10000 in
theorem lk_867 : (Jvm.Cond.instanceMethod ({ cls := "LawfulLots$BinTable", name := "lowest", desc := "(I)I" } : Jvm.MethodName)) ∈ gt := List.mem_filter.mpr ⟨in_4 (List.mem_of_getElem? (i := 147) rfl), rfl⟩
set_option maxRecDepth 10000 in
theorem lk_868 : (Jvm.Cond.selects "LawfulLots$BinTable" ({ cls := "LawfulLots$BinTable", name := "lowest", desc := "(I)I" } : Jvm.MethodName) ({ cls := "LawfulLots$BinTable", name := "lowest", desc := "(I)I" } : Jvm.MethodName)) ∈ gt := List.mem_filter.mpr ⟨in_4 (List.mem_of_getElem? (i := 148) rfl), rfl⟩
set_option maxRecDepth 10000 in
theorem lk_869 : (Jvm.Cond.code ({ cls := "LawfulLots$BinTable", name := "lowest", desc := "(I)I" } : Jvm.MethodName) prog_2_method_7_code (2 : Nat) (Option.some Jvm.ClassFile.FieldType.int)) ∈ gt := List.mem_filter.mpr ⟨in_4 (List.mem_of_getElem? (i := 149) rfl), rfl⟩
set_option maxRecDepth 10000 in
theorem lk_870 : (Jvm.Cond.methodLink "LawfulLotsLaw" (105 : Nat) ({ cls := "LawfulLots", name := "logged", desc := "(II)I" } : Jvm.MethodName)) ∈ gt := List.mem_filter.mpr ⟨in_4 (List.mem_of_getElem? (i := 150) rfl), rfl⟩
set_option maxRecDepth 10000 in
theorem lk_871 : (Jvm.Cond.instanceMethod ({ cls := "LawfulLots", name := "logged", desc := "(II)I" } : Jvm.MethodName)) ∈ gt := List.mem_filter.mpr ⟨in_4 (List.mem_of_getElem? (i := 151) rfl), rfl⟩
set_option maxRecDepth 10000 in
theorem lk_872 : (Jvm.Cond.selects "LawfulLots" ({ cls := "LawfulLots", name := "logged", desc := "(II)I" } : Jvm.MethodName) ({ cls := "LawfulLots", name := "logged", desc := "(II)I" } : Jvm.MethodName)) ∈ gt := List.mem_filter.mpr ⟨in_4 (List.mem_of_getElem? (i := 152) rfl), rfl⟩
set_option maxRecDepth 10000 in
theorem lk_873 : (Jvm.Cond.code ({ cls := "LawfulLots", name := "logged", desc := "(II)I" } : Jvm.MethodName) prog_1_method_26_code (3 : Nat) (Option.some Jvm.ClassFile.FieldType.int)) ∈ gt := List.mem_filter.mpr ⟨in_4 (List.mem_of_getElem? (i := 153) rfl), rfl⟩
set_option maxRecDepth 10000 in
theorem lk_874 : (Jvm.Cond.methodLink "LawfulLots" (182 : Nat) ({ cls := "LawfulLots$Log", name := "inputOf", desc := "(I)I" } : Jvm.MethodName)) ∈ gt := List.mem_filter.mpr ⟨in_4 (List.mem_of_getElem? (i := 154) rfl), rfl⟩
set_option maxRecDepth 10000 in
theorem lk_875 : (Jvm.Cond.methodLink "LawfulLotsLaw" (109 : Nat) ({ cls := "LawfulLots", name := "fallen", desc := "(I)I" } : Jvm.MethodName)) ∈ gt := List.mem_filter.mpr ⟨in_4 (List.mem_of_getElem? (i := 155) rfl), rfl⟩
set_option maxRecDepth 10000 in
theorem lk_876 : (Jvm.Cond.instanceMethod ({ cls := "LawfulLots", name := "fallen", desc := "(I)I" } : Jvm.MethodName)) ∈ gt := List.mem_filter.mpr ⟨in_4 (List.mem_of_getElem? (i := 156) rfl), rfl⟩
set_option maxRecDepth 10000 in
theorem lk_877 : (Jvm.Cond.selects "LawfulLots" ({ cls := "LawfulLots", name := "fallen", desc := "(I)I" } : Jvm.MethodName) ({ cls := "LawfulLots", name := "fallen", desc := "(I)I" } : Jvm.MethodName)) ∈ gt := List.mem_filter.mpr ⟨in_4 (List.mem_of_getElem? (i := 157) rfl), rfl⟩
set_option maxRecDepth 10000 in
theorem lk_878 : (Jvm.Cond.code ({ cls := "LawfulLots", name := "fallen", desc := "(I)I" } : Jvm.MethodName) prog_1_method_27_code (2 : Nat) (Option.some Jvm.ClassFile.FieldType.int)) ∈ gt := List.mem_filter.mpr ⟨in_4 (List.mem_of_getElem? (i := 158) rfl), rfl⟩
set_option maxRecDepth 10000 in
theorem lk_879 : (Jvm.Cond.methodLink "LawfulLots" (183 : Nat) ({ cls := "LawfulLots$Log", name := "unlawful", desc := "(LLawfulLots$Chart;I)I" } : Jvm.MethodName)) ∈ gt := List.mem_filter.mpr ⟨in_4 (List.mem_of_getElem? (i := 159) rfl), rfl⟩
set_option maxRecDepth 10000 in
theorem lk_880 : (Jvm.Cond.instanceMethod ({ cls := "LawfulLots$Log", name := "unlawful", desc := "(LLawfulLots$Chart;I)I" } : Jvm.MethodName)) ∈ gt := List.mem_filter.mpr ⟨in_4 (List.mem_of_getElem? (i := 160) rfl), rfl⟩
set_option maxRecDepth 10000 in
theorem lk_881 : (Jvm.Cond.selects "LawfulLots$Log" ({ cls := "LawfulLots$Log", name := "unlawful", desc := "(LLawfulLots$Chart;I)I" } : Jvm.MethodName) ({ cls := "LawfulLots$Log", name := "unlawful", desc := "(LLawfulLots$Chart;I)I" } : Jvm.MethodName)) ∈ gt := List.mem_filter.mpr ⟨in_4 (List.mem_of_getElem? (i := 161) rfl), rfl⟩
set_option maxRecDepth 10000 in
theorem lk_882 : (Jvm.Cond.code ({ cls := "LawfulLots$Log", name := "unlawful", desc := "(LLawfulLots$Chart;I)I" } : Jvm.MethodName) prog_6_method_6_code (5 : Nat) (Option.some Jvm.ClassFile.FieldType.int)) ∈ gt := List.mem_filter.mpr ⟨in_4 (List.mem_of_getElem? (i := 162) rfl), rfl⟩
set_option maxRecDepth 10000 in
theorem lk_883 : (Jvm.Cond.methodLink "LawfulLots$Log" (28 : Nat) ({ cls := "LawfulLots$Chart", name := "isLawful", desc := "(I)Z" } : Jvm.MethodName)) ∈ gt := List.mem_filter.mpr ⟨in_4 (List.mem_of_getElem? (i := 163) rfl), rfl⟩
set_option maxRecDepth 10000 in
theorem lk_884 : (Jvm.Cond.instanceMethod ({ cls := "LawfulLots$Chart", name := "isLawful", desc := "(I)Z" } : Jvm.MethodName)) ∈ gt := List.mem_filter.mpr ⟨in_4 (List.mem_of_getElem? (i := 164) rfl), rfl⟩
set_option maxRecDepth 10000 in
theorem lk_885 : (Jvm.Cond.selects "LawfulLots$Chart" ({ cls := "LawfulLots$Chart", name := "isLawful", desc := "(I)Z" } : Jvm.MethodName) ({ cls := "LawfulLots$Chart", name := "isLawful", desc := "(I)Z" } : Jvm.MethodName)) ∈ gt := List.mem_filter.mpr ⟨in_4 (List.mem_of_getElem? (i := 165) rfl), rfl⟩
set_option maxRecDepth 10000 in
theorem lk_886 : (Jvm.Cond.code ({ cls := "LawfulLots$Chart", name := "isLawful", desc := "(I)Z" } : Jvm.MethodName) prog_5_method_18_code (3 : Nat) (Option.some Jvm.ClassFile.FieldType.boolean)) ∈ gt := List.mem_filter.mpr ⟨in_4 (List.mem_of_getElem? (i := 166) rfl), rfl⟩
set_option maxRecDepth 10000 in
theorem lk_887 : (Jvm.Cond.methodLink "LawfulLotsLaw" (113 : Nat) ({ cls := "LawfulLots", name := "rows", desc := "(I)J" } : Jvm.MethodName)) ∈ gt := List.mem_filter.mpr ⟨in_4 (List.mem_of_getElem? (i := 167) rfl), rfl⟩
set_option maxRecDepth 10000 in
theorem lk_888 : (Jvm.Cond.instanceMethod ({ cls := "LawfulLots", name := "rows", desc := "(I)J" } : Jvm.MethodName)) ∈ gt := List.mem_filter.mpr ⟨in_4 (List.mem_of_getElem? (i := 168) rfl), rfl⟩
set_option maxRecDepth 10000 in
theorem lk_889 : (Jvm.Cond.selects "LawfulLots" ({ cls := "LawfulLots", name := "rows", desc := "(I)J" } : Jvm.MethodName) ({ cls := "LawfulLots", name := "rows", desc := "(I)J" } : Jvm.MethodName)) ∈ gt := List.mem_filter.mpr ⟨in_4 (List.mem_of_getElem? (i := 169) rfl), rfl⟩
set_option maxRecDepth 10000 in
theorem lk_890 : (Jvm.Cond.code ({ cls := "LawfulLots", name := "rows", desc := "(I)J" } : Jvm.MethodName) prog_1_method_28_code (2 : Nat) (Option.some Jvm.ClassFile.FieldType.long)) ∈ gt := List.mem_filter.mpr ⟨in_4 (List.mem_of_getElem? (i := 170) rfl), rfl⟩
set_option maxRecDepth 10000 in
theorem lk_891 : (Jvm.Cond.methodLink "LawfulLots" (186 : Nat) ({ cls := "LawfulLots", name := "rowsThereOf", desc := "(I)Z" } : Jvm.MethodName)) ∈ gt := List.mem_filter.mpr ⟨in_4 (List.mem_of_getElem? (i := 171) rfl), rfl⟩
set_option maxRecDepth 10000 in
theorem lk_893 : (Jvm.Cond.instanceMethod ({ cls := "LawfulLots", name := "rowsThereOf", desc := "(I)Z" } : Jvm.MethodName)) ∈ gt := List.mem_filter.mpr ⟨in_4 (List.mem_of_getElem? (i := 173) rfl), rfl⟩
set_option maxRecDepth 10000 in
theorem lk_894 : (Jvm.Cond.code ({ cls := "LawfulLots", name := "rowsThereOf", desc := "(I)Z" } : Jvm.MethodName) prog_1_method_30_code (2 : Nat) (Option.some Jvm.ClassFile.FieldType.boolean)) ∈ gt := List.mem_filter.mpr ⟨in_4 (List.mem_of_getElem? (i := 174) rfl), rfl⟩
set_option maxRecDepth 10000 in
theorem lk_895 : (Jvm.Cond.methodLink "LawfulLots" (199 : Nat) ({ cls := "LawfulLots$Chains", name := "refresh", desc := "(LLawfulLots$Chart;)V" } : Jvm.MethodName)) ∈ gt := List.mem_filter.mpr ⟨in_4 (List.mem_of_getElem? (i := 175) rfl), rfl⟩
set_option maxRecDepth 10000 in
theorem lk_896 : (Jvm.Cond.instanceMethod ({ cls := "LawfulLots$Chains", name := "refresh", desc := "(LLawfulLots$Chart;)V" } : Jvm.MethodName)) ∈ gt := List.mem_filter.mpr ⟨in_4 (List.mem_of_getElem? (i := 176) rfl), rfl⟩
set_option maxRecDepth 10000 in
theorem lk_897 : (Jvm.Cond.selects "LawfulLots$Chains" ({ cls := "LawfulLots$Chains", name := "refresh", desc := "(LLawfulLots$Chart;)V" } : Jvm.MethodName) ({ cls := "LawfulLots$Chains", name := "refresh", desc := "(LLawfulLots$Chart;)V" } : Jvm.MethodName)) ∈ gt := List.mem_filter.mpr ⟨in_4 (List.mem_of_getElem? (i := 177) rfl), rfl⟩
set_option maxRecDepth 10000 in
theorem lk_898 : (Jvm.Cond.code ({ cls := "LawfulLots$Chains", name := "refresh", desc := "(LLawfulLots$Chart;)V" } : Jvm.MethodName) prog_4_method_2_code (4 : Nat) (Option.none : Option Jvm.ClassFile.FieldType)) ∈ gt := List.mem_filter.mpr ⟨in_4 (List.mem_of_getElem? (i := 178) rfl), rfl⟩
set_option maxRecDepth 10000 in
theorem lk_899 : (Jvm.Cond.methodLink "LawfulLots$Chains" (43 : Nat) ({ cls := "java/lang/Math", name := "min", desc := "(II)I" } : Jvm.MethodName)) ∈ gt := List.mem_filter.mpr ⟨in_4 (List.mem_of_getElem? (i := 179) rfl), rfl⟩
set_option maxRecDepth 10000 in
theorem lk_900 : (Jvm.Cond.methodLink "LawfulLots$Chains" (53 : Nat) ({ cls := "LawfulLots$Chart", name := "inputOf", desc := "(I)I" } : Jvm.MethodName)) ∈ gt := List.mem_filter.mpr ⟨in_4 (List.mem_of_getElem? (i := 180) rfl), rfl⟩
set_option maxRecDepth 10000 in
theorem lk_901 : (Jvm.Cond.methodLink "LawfulLots$Chains" (57 : Nat) ({ cls := "LawfulLots$Book", name := "spell", desc := "(I[I)V" } : Jvm.MethodName)) ∈ gt := List.mem_filter.mpr ⟨in_4 (List.mem_of_getElem? (i := 181) rfl), rfl⟩
set_option maxRecDepth 10000 in
theorem lk_902 : (Jvm.Cond.instanceMethod ({ cls := "LawfulLots$Book", name := "spell", desc := "(I[I)V" } : Jvm.MethodName)) ∈ gt := List.mem_filter.mpr ⟨in_4 (List.mem_of_getElem? (i := 182) rfl), rfl⟩
set_option maxRecDepth 10000 in
theorem lk_903 : (Jvm.Cond.selects "LawfulLots$Book" ({ cls := "LawfulLots$Book", name := "spell", desc := "(I[I)V" } : Jvm.MethodName) ({ cls := "LawfulLots$Book", name := "spell", desc := "(I[I)V" } : Jvm.MethodName)) ∈ gt := List.mem_filter.mpr ⟨in_4 (List.mem_of_getElem? (i := 183) rfl), rfl⟩
set_option maxRecDepth 10000 in
theorem lk_904 : (Jvm.Cond.code ({ cls := "LawfulLots$Book", name := "spell", desc := "(I[I)V" } : Jvm.MethodName) prog_3_method_15_code (4 : Nat) (Option.none : Option Jvm.ClassFile.FieldType)) ∈ gt := List.mem_filter.mpr ⟨in_4 (List.mem_of_getElem? (i := 184) rfl), rfl⟩
set_option maxRecDepth 10000 in
theorem lk_905 : (Jvm.Cond.methodLink "LawfulLots$Book" (73 : Nat) ({ cls := "LawfulLots$Book", name := "valueIn", desc := "(II)I" } : Jvm.MethodName)) ∈ gt := List.mem_filter.mpr ⟨in_4 (List.mem_of_getElem? (i := 185) rfl), rfl⟩
set_option maxRecDepth 10000 in
theorem lk_906 : (Jvm.Cond.methodLink "LawfulLots$Chains" (63 : Nat) ({ cls := "LawfulLots$Chains", name := "followersOfOld", desc := "(LLawfulLots$Chart;)J" } : Jvm.MethodName)) ∈ gt := List.mem_filter.mpr ⟨in_4 (List.mem_of_getElem? (i := 186) rfl), rfl⟩
set_option maxRecDepth 10000 in
theorem lk_908 : (Jvm.Cond.instanceMethod ({ cls := "LawfulLots$Chains", name := "followersOfOld", desc := "(LLawfulLots$Chart;)J" } : Jvm.MethodName)) ∈ gt := List.mem_filter.mpr ⟨in_4 (List.mem_of_getElem? (i := 188) rfl), rfl⟩
set_option maxRecDepth 10000 in
theorem lk_909 : (Jvm.Cond.code ({ cls := "LawfulLots$Chains", name := "followersOfOld", desc := "(LLawfulLots$Chart;)J" } : Jvm.MethodName) prog_4_method_3_code (5 : Nat) (Option.some Jvm.ClassFile.FieldType.long)) ∈ gt := List.mem_filter.mpr ⟨in_4 (List.mem_of_getElem? (i := 189) rfl), rfl⟩
set_option maxRecDepth 10000 in
theorem lk_910 : (Jvm.Cond.methodLink "LawfulLots$Chains" (74 : Nat) ({ cls := "LawfulLots$Chains", name := "allNextsHold", desc := "(LLawfulLots$Book;)Z" } : Jvm.MethodName)) ∈ gt := List.mem_filter.mpr ⟨in_4 (List.mem_of_getElem? (i := 190) rfl), rfl⟩
set_option maxRecDepth 10000 in
theorem lk_912 : (Jvm.Cond.instanceMethod ({ cls := "LawfulLots$Chains", name := "allNextsHold", desc := "(LLawfulLots$Book;)Z" } : Jvm.MethodName)) ∈ gt := List.mem_filter.mpr ⟨in_4 (List.mem_of_getElem? (i := 192) rfl), rfl⟩
set_option maxRecDepth 10000 in
theorem lk_913 : (Jvm.Cond.code ({ cls := "LawfulLots$Chains", name := "allNextsHold", desc := "(LLawfulLots$Book;)Z" } : Jvm.MethodName) prog_4_method_4_code (3 : Nat) (Option.some Jvm.ClassFile.FieldType.boolean)) ∈ gt := List.mem_filter.mpr ⟨in_4 (List.mem_of_getElem? (i := 193) rfl), rfl⟩
set_option maxRecDepth 10000 in
theorem lk_914 : (Jvm.Cond.methodLink "LawfulLots$Chains" (78 : Nat) ({ cls := "LawfulLots$Book", name := "toldOf", desc := "(I)I" } : Jvm.MethodName)) ∈ gt := List.mem_filter.mpr ⟨in_4 (List.mem_of_getElem? (i := 194) rfl), rfl⟩
set_option maxRecDepth 10000 in
theorem lk_915 : (Jvm.Cond.methodLink "LawfulLots$Chains" (81 : Nat) ({ cls := "LawfulLots$Machine", name := "run", desc := "(LLawfulLots$Book;I[I[I)I" } : Jvm.MethodName)) ∈ gt := List.mem_filter.mpr ⟨in_4 (List.mem_of_getElem? (i := 195) rfl), rfl⟩
set_option maxRecDepth 10000 in
theorem lk_916 : (Jvm.Cond.methodLink "LawfulLots$Chains" (67 : Nat) ({ cls := "LawfulLots$Chains", name := "indexOf", desc := "(II)I" } : Jvm.MethodName)) ∈ gt := List.mem_filter.mpr ⟨in_4 (List.mem_of_getElem? (i := 196) rfl), rfl⟩
set_option maxRecDepth 10000 in
theorem lk_917 : (Jvm.Cond.static ({ cls := "LawfulLots$Chains", name := "indexOf", desc := "(II)I" } : Jvm.MethodName)) ∈ gt := List.mem_filter.mpr ⟨in_4 (List.mem_of_getElem? (i := 197) rfl), rfl⟩
set_option maxRecDepth 10000 in
theorem lk_918 : (Jvm.Cond.code ({ cls := "LawfulLots$Chains", name := "indexOf", desc := "(II)I" } : Jvm.MethodName) prog_4_method_5_code (3 : Nat) (Option.some Jvm.ClassFile.FieldType.int)) ∈ gt := List.mem_filter.mpr ⟨in_4 (List.mem_of_getElem? (i := 198) rfl), rfl⟩
set_option maxRecDepth 10000 in
theorem lk_919 : (Jvm.Cond.methodLink "LawfulLots$Chains" (85 : Nat) ({ cls := "java/lang/Math", name := "max", desc := "(II)I" } : Jvm.MethodName)) ∈ gt := List.mem_filter.mpr ⟨in_4 (List.mem_of_getElem? (i := 199) rfl), rfl⟩
set_option maxRecDepth 10000 in
theorem lk_920 : (Jvm.Cond.methodLink "LawfulLots$Chains" (70 : Nat) ({ cls := "LawfulLots$Chains", name := "waysOver", desc := "(IJ)J" } : Jvm.MethodName)) ∈ gt := List.mem_filter.mpr ⟨in_4 (List.mem_of_getElem? (i := 200) rfl), rfl⟩
set_option maxRecDepth 10000 in
theorem lk_922 : (Jvm.Cond.instanceMethod ({ cls := "LawfulLots$Chains", name := "waysOver", desc := "(IJ)J" } : Jvm.MethodName)) ∈ gt := List.mem_filter.mpr ⟨in_4 (List.mem_of_getElem? (i := 202) rfl), rfl⟩
set_option maxRecDepth 10000 in
theorem lk_923 : (Jvm.Cond.code ({ cls := "LawfulLots$Chains", name := "waysOver", desc := "(IJ)J" } : Jvm.MethodName) prog_4_method_6_code (7 : Nat) (Option.some Jvm.ClassFile.FieldType.long)) ∈ gt := List.mem_filter.mpr ⟨in_4 (List.mem_of_getElem? (i := 203) rfl), rfl⟩
set_option maxRecDepth 10000 in
theorem lk_924 : (Jvm.Cond.constantLong "LawfulLots" (189 : Nat) (-1 : Int64)) ∈ gt := List.mem_filter.mpr ⟨in_4 (List.mem_of_getElem? (i := 204) rfl), rfl⟩
set_option maxRecDepth 10000 in
theorem lk_925 : (Jvm.Cond.methodLink "LawfulLots" (191 : Nat) ({ cls := "LawfulLots$Chains", name := "ofLength", desc := "(I)J" } : Jvm.MethodName)) ∈ gt := List.mem_filter.mpr ⟨in_4 (List.mem_of_getElem? (i := 205) rfl), rfl⟩
set_option maxRecDepth 10000 in
theorem lk_926 : (Jvm.Cond.instanceMethod ({ cls := "LawfulLots$Chains", name := "ofLength", desc := "(I)J" } : Jvm.MethodName)) ∈ gt := List.mem_filter.mpr ⟨in_4 (List.mem_of_getElem? (i := 206) rfl), rfl⟩
set_option maxRecDepth 10000 in
theorem lk_927 : (Jvm.Cond.selects "LawfulLots$Chains" ({ cls := "LawfulLots$Chains", name := "ofLength", desc := "(I)J" } : Jvm.MethodName) ({ cls := "LawfulLots$Chains", name := "ofLength", desc := "(I)J" } : Jvm.MethodName)) ∈ gt := List.mem_filter.mpr ⟨in_4 (List.mem_of_getElem? (i := 207) rfl), rfl⟩
set_option maxRecDepth 10000 in
theorem lk_928 : (Jvm.Cond.code ({ cls := "LawfulLots$Chains", name := "ofLength", desc := "(I)J" } : Jvm.MethodName) prog_4_method_7_code (2 : Nat) (Option.some Jvm.ClassFile.FieldType.long)) ∈ gt := List.mem_filter.mpr ⟨in_4 (List.mem_of_getElem? (i := 208) rfl), rfl⟩
set_option maxRecDepth 10000 in
theorem lk_929 : (Jvm.Cond.constantLong "LawfulLots$Chains" (88 : Nat) (-1 : Int64)) ∈ gt := List.mem_filter.mpr ⟨in_4 (List.mem_of_getElem? (i := 209) rfl), rfl⟩
set_option maxRecDepth 10000 in
theorem lk_930 : (Jvm.Cond.methodLink "LawfulLotsLaw" (118 : Nat) ({ cls := "LawfulLots", name := "row", desc := "(IJI)I" } : Jvm.MethodName)) ∈ gt := List.mem_filter.mpr ⟨in_4 (List.mem_of_getElem? (i := 210) rfl), rfl⟩
set_option maxRecDepth 10000 in
theorem lk_931 : (Jvm.Cond.instanceMethod ({ cls := "LawfulLots", name := "row", desc := "(IJI)I" } : Jvm.MethodName)) ∈ gt := List.mem_filter.mpr ⟨in_4 (List.mem_of_getElem? (i := 211) rfl), rfl⟩
set_option maxRecDepth 10000 in
theorem lk_932 : (Jvm.Cond.selects "LawfulLots" ({ cls := "LawfulLots", name := "row", desc := "(IJI)I" } : Jvm.MethodName) ({ cls := "LawfulLots", name := "row", desc := "(IJI)I" } : Jvm.MethodName)) ∈ gt := List.mem_filter.mpr ⟨in_4 (List.mem_of_getElem? (i := 212) rfl), rfl⟩
set_option maxRecDepth 10000 in
theorem lk_933 : (Jvm.Cond.code ({ cls := "LawfulLots", name := "row", desc := "(IJI)I" } : Jvm.MethodName) prog_1_method_29_code (5 : Nat) (Option.some Jvm.ClassFile.FieldType.int)) ∈ gt := List.mem_filter.mpr ⟨in_4 (List.mem_of_getElem? (i := 213) rfl), rfl⟩
set_option maxRecDepth 10000 in
theorem lk_934 : (Jvm.Cond.methodLink "LawfulLots" (195 : Nat) ({ cls := "LawfulLots$Chains", name := "member", desc := "(IJI)I" } : Jvm.MethodName)) ∈ gt := List.mem_filter.mpr ⟨in_4 (List.mem_of_getElem? (i := 214) rfl), rfl⟩
set_option maxRecDepth 10000 in
theorem lk_935 : (Jvm.Cond.instanceMethod ({ cls := "LawfulLots$Chains", name := "member", desc := "(IJI)I" } : Jvm.MethodName)) ∈ gt := List.mem_filter.mpr ⟨in_4 (List.mem_of_getElem? (i := 215) rfl), rfl⟩
set_option maxRecDepth 10000 in
theorem lk_936 : (Jvm.Cond.selects "LawfulLots$Chains" ({ cls := "LawfulLots$Chains", name := "member", desc := "(IJI)I" } : Jvm.MethodName) ({ cls := "LawfulLots$Chains", name := "member", desc := "(IJI)I" } : Jvm.MethodName)) ∈ gt := List.mem_filter.mpr ⟨in_4 (List.mem_of_getElem? (i := 216) rfl), rfl⟩
set_option maxRecDepth 10000 in
theorem lk_937 : (Jvm.Cond.code ({ cls := "LawfulLots$Chains", name := "member", desc := "(IJI)I" } : Jvm.MethodName) prog_4_method_8_code (14 : Nat) (Option.some Jvm.ClassFile.FieldType.int)) ∈ gt := List.mem_filter.mpr ⟨in_4 (List.mem_of_getElem? (i := 217) rfl), rfl⟩
set_option maxRecDepth 10000 in
theorem lk_938 : (Jvm.Cond.methodLink "LawfulLotsLaw" (123 : Nat) ({ cls := "LawfulLots", name := "count", desc := "(I)I" } : Jvm.MethodName)) ∈ gt := List.mem_filter.mpr ⟨in_4 (List.mem_of_getElem? (i := 218) rfl), rfl⟩
set_option maxRecDepth 10000 in
theorem lk_939 : (Jvm.Cond.instanceMethod ({ cls := "LawfulLots", name := "count", desc := "(I)I" } : Jvm.MethodName)) ∈ gt := List.mem_filter.mpr ⟨in_4 (List.mem_of_getElem? (i := 219) rfl), rfl⟩
set_option maxRecDepth 10000 in
theorem lk_940 : (Jvm.Cond.selects "LawfulLots" ({ cls := "LawfulLots", name := "count", desc := "(I)I" } : Jvm.MethodName) ({ cls := "LawfulLots", name := "count", desc := "(I)I" } : Jvm.MethodName)) ∈ gt := List.mem_filter.mpr ⟨in_4 (List.mem_of_getElem? (i := 220) rfl), rfl⟩
set_option maxRecDepth 10000 in
theorem lk_941 : (Jvm.Cond.code ({ cls := "LawfulLots", name := "count", desc := "(I)I" } : Jvm.MethodName) prog_1_method_31_code (2 : Nat) (Option.some Jvm.ClassFile.FieldType.int)) ∈ gt := List.mem_filter.mpr ⟨in_4 (List.mem_of_getElem? (i := 221) rfl), rfl⟩
set_option maxRecDepth 10000 in
theorem lk_942 : (Jvm.Cond.methodLink "LawfulLots" (203 : Nat) ({ cls := "LawfulLots$Book", name := "toldOf", desc := "(I)I" } : Jvm.MethodName)) ∈ gt := List.mem_filter.mpr ⟨in_4 (List.mem_of_getElem? (i := 222) rfl), rfl⟩
set_option maxRecDepth 10000 in
theorem lk_943 : (Jvm.Cond.classLink "LawfulLotsLaw" (10 : Nat) "LawfulLotsModel") ∈ gt := List.mem_filter.mpr ⟨in_4 (List.mem_of_getElem? (i := 223) rfl), rfl⟩
set_option maxRecDepth 10000 in
theorem lk_944 : (Jvm.Cond.instantiable "LawfulLotsModel" (67 : Nat)) ∈ gt := List.mem_filter.mpr ⟨in_4 (List.mem_of_getElem? (i := 224) rfl), rfl⟩
set_option maxRecDepth 10000 in
theorem lk_945 : (Jvm.Cond.methodLink "LawfulLotsLaw" (12 : Nat) ({ cls := "LawfulLotsModel", name := "<init>", desc := "()V" } : Jvm.MethodName)) ∈ gt := List.mem_filter.mpr ⟨in_4 (List.mem_of_getElem? (i := 225) rfl), rfl⟩
set_option maxRecDepth 10000 in
theorem lk_946 : (Jvm.Cond.instanceMethod ({ cls := "LawfulLotsModel", name := "<init>", desc := "()V" } : Jvm.MethodName)) ∈ gt := List.mem_filter.mpr ⟨in_4 (List.mem_of_getElem? (i := 226) rfl), rfl⟩
set_option maxRecDepth 10000 in
theorem lk_947 : (Jvm.Cond.code ({ cls := "LawfulLotsModel", name := "<init>", desc := "()V" } : Jvm.MethodName) prog_11_method_2_code (1 : Nat) (Option.none : Option Jvm.ClassFile.FieldType)) ∈ gt := List.mem_filter.mpr ⟨in_4 (List.mem_of_getElem? (i := 227) rfl), rfl⟩
set_option maxRecDepth 10000 in
theorem lk_948 : (Jvm.Cond.methodLink "LawfulLotsModel" (7 : Nat) ({ cls := "java/lang/Object", name := "<init>", desc := "()V" } : Jvm.MethodName)) ∈ gt := List.mem_filter.mpr ⟨in_4 (List.mem_of_getElem? (i := 228) rfl), rfl⟩
set_option maxRecDepth 10000 in
theorem lk_949 : (Jvm.Cond.constant "LawfulLotsModel" (104 : Nat) (32768 : Int32)) ∈ gt := List.mem_filter.mpr ⟨in_4 (List.mem_of_getElem? (i := 229) rfl), rfl⟩
set_option maxRecDepth 10000 in
theorem lk_950 : (Jvm.Cond.methodLink "LawfulLotsModel" (153 : Nat) ({ cls := "LawfulLotsModel", name := "word", desc := "(IIIIII)J" } : Jvm.MethodName)) ∈ gt := List.mem_filter.mpr ⟨in_4 (List.mem_of_getElem? (i := 230) rfl), rfl⟩
set_option maxRecDepth 10000 in
theorem lk_951 : (Jvm.Cond.static ({ cls := "LawfulLotsModel", name := "word", desc := "(IIIIII)J" } : Jvm.MethodName)) ∈ gt := List.mem_filter.mpr ⟨in_4 (List.mem_of_getElem? (i := 231) rfl), rfl⟩
set_option maxRecDepth 10000 in
theorem lk_952 : (Jvm.Cond.code ({ cls := "LawfulLotsModel", name := "word", desc := "(IIIIII)J" } : Jvm.MethodName) prog_11_method_10_code (6 : Nat) (Option.some Jvm.ClassFile.FieldType.long)) ∈ gt := List.mem_filter.mpr ⟨in_4 (List.mem_of_getElem? (i := 232) rfl), rfl⟩
set_option maxRecDepth 10000 in
theorem lk_953 : (Jvm.Cond.methodLink "LawfulLotsModel" (176 : Nat) ({ cls := "LawfulLotsModel", name := "more", desc := "(JI)J" } : Jvm.MethodName)) ∈ gt := List.mem_filter.mpr ⟨in_4 (List.mem_of_getElem? (i := 233) rfl), rfl⟩
set_option maxRecDepth 10000 in
theorem lk_954 : (Jvm.Cond.static ({ cls := "LawfulLotsModel", name := "more", desc := "(JI)J" } : Jvm.MethodName)) ∈ gt := List.mem_filter.mpr ⟨in_4 (List.mem_of_getElem? (i := 234) rfl), rfl⟩
set_option maxRecDepth 10000 in
theorem lk_955 : (Jvm.Cond.code ({ cls := "LawfulLotsModel", name := "more", desc := "(JI)J" } : Jvm.MethodName) prog_11_method_9_code (3 : Nat) (Option.some Jvm.ClassFile.FieldType.long)) ∈ gt := List.mem_filter.mpr ⟨in_4 (List.mem_of_getElem? (i := 235) rfl), rfl⟩
set_option maxRecDepth 10000 in
theorem lk_956 : (Jvm.Cond.constantLong "LawfulLotsModel" (170 : Nat) (37 : Int64)) ∈ gt := List.mem_filter.mpr ⟨in_4 (List.mem_of_getElem? (i := 236) rfl), rfl⟩
set_option maxRecDepth 10000 in
theorem lk_957 : (Jvm.Cond.methodLink "LawfulLotsModel" (172 : Nat) ({ cls := "LawfulLotsModel", name := "isDigit", desc := "(I)Z" } : Jvm.MethodName)) ∈ gt := List.mem_filter.mpr ⟨in_4 (List.mem_of_getElem? (i := 237) rfl), rfl⟩
set_option maxRecDepth 10000 in
theorem lk_958 : (Jvm.Cond.static ({ cls := "LawfulLotsModel", name := "isDigit", desc := "(I)Z" } : Jvm.MethodName)) ∈ gt := List.mem_filter.mpr ⟨in_4 (List.mem_of_getElem? (i := 238) rfl), rfl⟩
set_option maxRecDepth 10000 in
theorem lk_959 : (Jvm.Cond.code ({ cls := "LawfulLotsModel", name := "isDigit", desc := "(I)Z" } : Jvm.MethodName) prog_11_method_7_code (1 : Nat) (Option.some Jvm.ClassFile.FieldType.boolean)) ∈ gt := List.mem_filter.mpr ⟨in_4 (List.mem_of_getElem? (i := 239) rfl), rfl⟩
set_option maxRecDepth 10000 in
theorem lk_960 : (Jvm.Cond.methodLink "LawfulLotsModel" (157 : Nat) ({ cls := "LawfulLotsModel", name := "goesThrough", desc := "()V" } : Jvm.MethodName)) ∈ gt := List.mem_filter.mpr ⟨in_5 (List.mem_of_getElem? (i := 0) rfl), rfl⟩
set_option maxRecDepth 10000 in
theorem lk_962 : (Jvm.Cond.instanceMethod ({ cls := "LawfulLotsModel", name := "goesThrough", desc := "()V" } : Jvm.MethodName)) ∈ gt := List.mem_filter.mpr ⟨in_5 (List.mem_of_getElem? (i := 2) rfl), rfl⟩
set_option maxRecDepth 10000 in
theorem lk_963 : (Jvm.Cond.code ({ cls := "LawfulLotsModel", name := "goesThrough", desc := "()V" } : Jvm.MethodName) prog_11_method_36_code (2 : Nat) (Option.none : Option Jvm.ClassFile.FieldType)) ∈ gt := List.mem_filter.mpr ⟨in_5 (List.mem_of_getElem? (i := 3) rfl), rfl⟩
set_option maxRecDepth 10000 in
theorem lk_964 : (Jvm.Cond.methodLink "LawfulLotsModel" (306 : Nat) ({ cls := "LawfulLotsModel", name := "looksAt", desc := "(I)V" } : Jvm.MethodName)) ∈ gt := List.mem_filter.mpr ⟨in_5 (List.mem_of_getElem? (i := 4) rfl), rfl⟩
set_option maxRecDepth 10000 in
theorem lk_966 : (Jvm.Cond.instanceMethod ({ cls := "LawfulLotsModel", name := "looksAt", desc := "(I)V" } : Jvm.MethodName)) ∈ gt := List.mem_filter.mpr ⟨in_5 (List.mem_of_getElem? (i := 6) rfl), rfl⟩
set_option maxRecDepth 10000 in
theorem lk_967 : (Jvm.Cond.code ({ cls := "LawfulLotsModel", name := "looksAt", desc := "(I)V" } : Jvm.MethodName) prog_11_method_34_code (3 : Nat) (Option.none : Option Jvm.ClassFile.FieldType)) ∈ gt := List.mem_filter.mpr ⟨in_5 (List.mem_of_getElem? (i := 7) rfl), rfl⟩
set_option maxRecDepth 10000 in
theorem lk_968 : (Jvm.Cond.methodLink "LawfulLotsModel" (291 : Nat) ({ cls := "LawfulLotsModel", name := "valueOf", desc := "(II)I" } : Jvm.MethodName)) ∈ gt := List.mem_filter.mpr ⟨in_5 (List.mem_of_getElem? (i := 8) rfl), rfl⟩
set_option maxRecDepth 10000 in
theorem lk_970 : (Jvm.Cond.instanceMethod ({ cls := "LawfulLotsModel", name := "valueOf", desc := "(II)I" } : Jvm.MethodName)) ∈ gt := List.mem_filter.mpr ⟨in_5 (List.mem_of_getElem? (i := 10) rfl), rfl⟩
set_option maxRecDepth 10000 in
theorem lk_971 : (Jvm.Cond.code ({ cls := "LawfulLotsModel", name := "valueOf", desc := "(II)I" } : Jvm.MethodName) prog_11_method_33_code (3 : Nat) (Option.some Jvm.ClassFile.FieldType.int)) ∈ gt := List.mem_filter.mpr ⟨in_5 (List.mem_of_getElem? (i := 11) rfl), rfl⟩
set_option maxRecDepth 10000 in
theorem lk_972 : (Jvm.Cond.methodLink "LawfulLotsModel" (309 : Nat) ({ cls := "LawfulLotsModel", name := "bitsOf", desc := "(I)I" } : Jvm.MethodName)) ∈ gt := List.mem_filter.mpr ⟨in_5 (List.mem_of_getElem? (i := 12) rfl), rfl⟩
set_option maxRecDepth 10000 in
theorem lk_974 : (Jvm.Cond.instanceMethod ({ cls := "LawfulLotsModel", name := "bitsOf", desc := "(I)I" } : Jvm.MethodName)) ∈ gt := List.mem_filter.mpr ⟨in_5 (List.mem_of_getElem? (i := 14) rfl), rfl⟩
set_option maxRecDepth 10000 in
theorem lk_975 : (Jvm.Cond.code ({ cls := "LawfulLotsModel", name := "bitsOf", desc := "(I)I" } : Jvm.MethodName) prog_11_method_35_code (4 : Nat) (Option.some Jvm.ClassFile.FieldType.int)) ∈ gt := List.mem_filter.mpr ⟨in_5 (List.mem_of_getElem? (i := 15) rfl), rfl⟩
set_option maxRecDepth 10000 in
theorem lk_976 : (Jvm.Cond.methodLink "LawfulLotsModel" (294 : Nat) ({ cls := "LawfulLotsModel", name := "tellsOf", desc := "(I)I" } : Jvm.MethodName)) ∈ gt := List.mem_filter.mpr ⟨in_5 (List.mem_of_getElem? (i := 16) rfl), rfl⟩
set_option maxRecDepth 10000 in
theorem lk_978 : (Jvm.Cond.instanceMethod ({ cls := "LawfulLotsModel", name := "tellsOf", desc := "(I)I" } : Jvm.MethodName)) ∈ gt := List.mem_filter.mpr ⟨in_5 (List.mem_of_getElem? (i := 18) rfl), rfl⟩
set_option maxRecDepth 10000 in
theorem lk_979 : (Jvm.Cond.code ({ cls := "LawfulLotsModel", name := "tellsOf", desc := "(I)I" } : Jvm.MethodName) prog_11_method_31_code (2 : Nat) (Option.some Jvm.ClassFile.FieldType.int)) ∈ gt := List.mem_filter.mpr ⟨in_5 (List.mem_of_getElem? (i := 19) rfl), rfl⟩
set_option maxRecDepth 10000 in
theorem lk_980 : (Jvm.Cond.methodLink "LawfulLotsModel" (297 : Nat) ({ cls := "LawfulLotsModel", name := "condOf", desc := "(II)I" } : Jvm.MethodName)) ∈ gt := List.mem_filter.mpr ⟨in_5 (List.mem_of_getElem? (i := 20) rfl), rfl⟩
set_option maxRecDepth 10000 in
theorem lk_982 : (Jvm.Cond.instanceMethod ({ cls := "LawfulLotsModel", name := "condOf", desc := "(II)I" } : Jvm.MethodName)) ∈ gt := List.mem_filter.mpr ⟨in_5 (List.mem_of_getElem? (i := 22) rfl), rfl⟩
set_option maxRecDepth 10000 in
theorem lk_983 : (Jvm.Cond.code ({ cls := "LawfulLotsModel", name := "condOf", desc := "(II)I" } : Jvm.MethodName) prog_11_method_32_code (3 : Nat) (Option.some Jvm.ClassFile.FieldType.int)) ∈ gt := List.mem_filter.mpr ⟨in_5 (List.mem_of_getElem? (i := 23) rfl), rfl⟩
set_option maxRecDepth 10000 in
theorem lk_984 : (Jvm.Cond.methodLink "LawfulLotsModel" (300 : Nat) ({ cls := "LawfulLotsModel", name := "holds", desc := "(I)Z" } : Jvm.MethodName)) ∈ gt := List.mem_filter.mpr ⟨in_5 (List.mem_of_getElem? (i := 24) rfl), rfl⟩
set_option maxRecDepth 10000 in
theorem lk_986 : (Jvm.Cond.instanceMethod ({ cls := "LawfulLotsModel", name := "holds", desc := "(I)Z" } : Jvm.MethodName)) ∈ gt := List.mem_filter.mpr ⟨in_5 (List.mem_of_getElem? (i := 26) rfl), rfl⟩
set_option maxRecDepth 10000 in
theorem lk_987 : (Jvm.Cond.code ({ cls := "LawfulLotsModel", name := "holds", desc := "(I)Z" } : Jvm.MethodName) prog_11_method_30_code (8 : Nat) (Option.some Jvm.ClassFile.FieldType.boolean)) ∈ gt := List.mem_filter.mpr ⟨in_5 (List.mem_of_getElem? (i := 27) rfl), rfl⟩
set_option maxRecDepth 10000 in
theorem lk_988 : (Jvm.Cond.methodLink "LawfulLotsModel" (287 : Nat) ({ cls := "LawfulLotsModel", name := "termOf", desc := "(II)I" } : Jvm.MethodName)) ∈ gt := List.mem_filter.mpr ⟨in_5 (List.mem_of_getElem? (i := 28) rfl), rfl⟩
set_option maxRecDepth 10000 in
theorem lk_990 : (Jvm.Cond.instanceMethod ({ cls := "LawfulLotsModel", name := "termOf", desc := "(II)I" } : Jvm.MethodName)) ∈ gt := List.mem_filter.mpr ⟨in_5 (List.mem_of_getElem? (i := 30) rfl), rfl⟩
set_option maxRecDepth 10000 in
theorem lk_991 : (Jvm.Cond.code ({ cls := "LawfulLotsModel", name := "termOf", desc := "(II)I" } : Jvm.MethodName) prog_11_method_29_code (8 : Nat) (Option.some Jvm.ClassFile.FieldType.int)) ∈ gt := List.mem_filter.mpr ⟨in_5 (List.mem_of_getElem? (i := 31) rfl), rfl⟩
set_option maxRecDepth 10000 in
theorem lk_992 : (Jvm.Cond.methodLink "LawfulLotsModel" (312 : Nat) ({ cls := "LawfulLotsModel", name := "settles", desc := "()V" } : Jvm.MethodName)) ∈ gt := List.mem_filter.mpr ⟨in_5 (List.mem_of_getElem? (i := 32) rfl), rfl⟩
set_option maxRecDepth 10000 in
theorem lk_994 : (Jvm.Cond.instanceMethod ({ cls := "LawfulLotsModel", name := "settles", desc := "()V" } : Jvm.MethodName)) ∈ gt := List.mem_filter.mpr ⟨in_5 (List.mem_of_getElem? (i := 34) rfl), rfl⟩
set_option maxRecDepth 10000 in
theorem lk_995 : (Jvm.Cond.code ({ cls := "LawfulLotsModel", name := "settles", desc := "()V" } : Jvm.MethodName) prog_11_method_39_code (7 : Nat) (Option.none : Option Jvm.ClassFile.FieldType)) ∈ gt := List.mem_filter.mpr ⟨in_5 (List.mem_of_getElem? (i := 35) rfl), rfl⟩
set_option maxRecDepth 10000 in
theorem lk_996 : (Jvm.Cond.methodLink "LawfulLotsModel" (318 : Nat) ({ cls := "LawfulLotsModel", name := "laws", desc := "()I" } : Jvm.MethodName)) ∈ gt := List.mem_filter.mpr ⟨in_5 (List.mem_of_getElem? (i := 36) rfl), rfl⟩
set_option maxRecDepth 10000 in
theorem lk_998 : (Jvm.Cond.instanceMethod ({ cls := "LawfulLotsModel", name := "laws", desc := "()I" } : Jvm.MethodName)) ∈ gt := List.mem_filter.mpr ⟨in_5 (List.mem_of_getElem? (i := 38) rfl), rfl⟩
set_option maxRecDepth 10000 in
theorem lk_999 : (Jvm.Cond.code ({ cls := "LawfulLotsModel", name := "laws", desc := "()I" } : Jvm.MethodName) prog_11_method_37_code (1 : Nat) (Option.some Jvm.ClassFile.FieldType.int)) ∈ gt := List.mem_filter.mpr ⟨in_5 (List.mem_of_getElem? (i := 39) rfl), rfl⟩
set_option maxRecDepth 10000 in
theorem lk_1000 : (Jvm.Cond.methodLink "LawfulLotsModel" (322 : Nat) ({ cls := "LawfulLotsModel", name := "isAny", desc := "(II)Z" } : Jvm.MethodName)) ∈ gt := List.mem_filter.mpr ⟨in_5 (List.mem_of_getElem? (i := 40) rfl), rfl⟩
set_option maxRecDepth 10000 in
theorem lk_1002 : (Jvm.Cond.instanceMethod ({ cls := "LawfulLotsModel", name := "isAny", desc := "(II)Z" } : Jvm.MethodName)) ∈ gt := List.mem_filter.mpr ⟨in_5 (List.mem_of_getElem? (i := 42) rfl), rfl⟩
set_option maxRecDepth 10000 in
theorem lk_1003 : (Jvm.Cond.code ({ cls := "LawfulLotsModel", name := "isAny", desc := "(II)Z" } : Jvm.MethodName) prog_11_method_38_code (4 : Nat) (Option.some Jvm.ClassFile.FieldType.boolean)) ∈ gt := List.mem_filter.mpr ⟨in_5 (List.mem_of_getElem? (i := 43) rfl), rfl⟩
set_option maxRecDepth 10000 in
theorem lk_1004 : (Jvm.Cond.methodLink "LawfulLotsModel" (332 : Nat) ({ cls := "LawfulLotsModel", name := "isLawful", desc := "(I)Z" } : Jvm.MethodName)) ∈ gt := List.mem_filter.mpr ⟨in_5 (List.mem_of_getElem? (i := 44) rfl), rfl⟩
set_option maxRecDepth 10000 in
theorem lk_1006 : (Jvm.Cond.instanceMethod ({ cls := "LawfulLotsModel", name := "isLawful", desc := "(I)Z" } : Jvm.MethodName)) ∈ gt := List.mem_filter.mpr ⟨in_5 (List.mem_of_getElem? (i := 46) rfl), rfl⟩
set_option maxRecDepth 10000 in
theorem lk_1007 : (Jvm.Cond.code ({ cls := "LawfulLotsModel", name := "isLawful", desc := "(I)Z" } : Jvm.MethodName) prog_11_method_40_code (2 : Nat) (Option.some Jvm.ClassFile.FieldType.boolean)) ∈ gt := List.mem_filter.mpr ⟨in_5 (List.mem_of_getElem? (i := 47) rfl), rfl⟩
set_option maxRecDepth 10000 in
theorem lk_1008 : (Jvm.Cond.methodLink "LawfulLotsModel" (335 : Nat) ({ cls := "LawfulLotsModel", name := "shareOf", desc := "(I)I" } : Jvm.MethodName)) ∈ gt := List.mem_filter.mpr ⟨in_5 (List.mem_of_getElem? (i := 48) rfl), rfl⟩
set_option maxRecDepth 10000 in
theorem lk_1010 : (Jvm.Cond.instanceMethod ({ cls := "LawfulLotsModel", name := "shareOf", desc := "(I)I" } : Jvm.MethodName)) ∈ gt := List.mem_filter.mpr ⟨in_5 (List.mem_of_getElem? (i := 50) rfl), rfl⟩
set_option maxRecDepth 10000 in
theorem lk_1011 : (Jvm.Cond.code ({ cls := "LawfulLotsModel", name := "shareOf", desc := "(I)I" } : Jvm.MethodName) prog_11_method_41_code (5 : Nat) (Option.some Jvm.ClassFile.FieldType.int)) ∈ gt := List.mem_filter.mpr ⟨in_5 (List.mem_of_getElem? (i := 51) rfl), rfl⟩
set_option maxRecDepth 10000 in
theorem lk_1012 : (Jvm.Cond.fieldLink "LawfulLotsModel" (13 : Nat) "LawfulLotsModel" "tape" "[B") ∈ gt := List.mem_filter.mpr ⟨in_5 (List.mem_of_getElem? (i := 52) rfl), rfl⟩
set_option maxRecDepth 10000 in
theorem lk_1013 : (Jvm.Cond.fieldLink "LawfulLotsModel" (160 : Nat) "LawfulLotsModel" "taped" "I") ∈ gt := List.mem_filter.mpr ⟨in_5 (List.mem_of_getElem? (i := 53) rfl), rfl⟩
set_option maxRecDepth 10000 in
theorem lk_1014 : (Jvm.Cond.fieldLink "LawfulLotsModel" (17 : Nat) "LawfulLotsModel" "text" "[B") ∈ gt := List.mem_filter.mpr ⟨in_5 (List.mem_of_getElem? (i := 54) rfl), rfl⟩
set_option maxRecDepth 10000 in
theorem lk_1015 : (Jvm.Cond.fieldLink "LawfulLotsModel" (167 : Nat) "LawfulLotsModel" "size" "I") ∈ gt := List.mem_filter.mpr ⟨in_5 (List.mem_of_getElem? (i := 55) rfl), rfl⟩
set_option maxRecDepth 10000 in
theorem lk_1016 : (Jvm.Cond.fieldLink "LawfulLotsModel" (20 : Nat) "LawfulLotsModel" "tKind" "[I") ∈ gt := List.mem_filter.mpr ⟨in_5 (List.mem_of_getElem? (i := 56) rfl), rfl⟩
set_option maxRecDepth 10000 in
theorem lk_1017 : (Jvm.Cond.fieldLink "LawfulLotsModel" (24 : Nat) "LawfulLotsModel" "tPlace" "[I") ∈ gt := List.mem_filter.mpr ⟨in_5 (List.mem_of_getElem? (i := 57) rfl), rfl⟩
set_option maxRecDepth 10000 in
theorem lk_1018 : (Jvm.Cond.fieldLink "LawfulLotsModel" (27 : Nat) "LawfulLotsModel" "tValue" "[I") ∈ gt := List.mem_filter.mpr ⟨in_5 (List.mem_of_getElem? (i := 58) rfl), rfl⟩
set_option maxRecDepth 10000 in
theorem lk_1019 : (Jvm.Cond.fieldLink "LawfulLotsModel" (30 : Nat) "LawfulLotsModel" "tName" "[J") ∈ gt := List.mem_filter.mpr ⟨in_5 (List.mem_of_getElem? (i := 59) rfl), rfl⟩
set_option maxRecDepth 10000 in
theorem lk_1020 : (Jvm.Cond.fieldLink "LawfulLotsModel" (34 : Nat) "LawfulLotsModel" "keys" "[J") ∈ gt := List.mem_filter.mpr ⟨in_5 (List.mem_of_getElem? (i := 60) rfl), rfl⟩
set_option maxRecDepth 10000 in
theorem lk_1021 : (Jvm.Cond.fieldLink "LawfulLotsModel" (180 : Nat) "LawfulLotsModel" "tokens" "I") ∈ gt := List.mem_filter.mpr ⟨in_5 (List.mem_of_getElem? (i := 61) rfl), rfl⟩
set_option maxRecDepth 10000 in
theorem lk_1022 : (Jvm.Cond.fieldLink "LawfulLotsModel" (201 : Nat) "LawfulLotsModel" "t" "I") ∈ gt := List.mem_filter.mpr ⟨in_5 (List.mem_of_getElem? (i := 62) rfl), rfl⟩
set_option maxRecDepth 10000 in
theorem lk_1023 : (Jvm.Cond.fieldLink "LawfulLotsModel" (225 : Nat) "LawfulLotsModel" "open" "I") ∈ gt := List.mem_filter.mpr ⟨in_5 (List.mem_of_getElem? (i := 63) rfl), rfl⟩
set_option maxRecDepth 10000 in
theorem lk_1024 : (Jvm.Cond.fieldLink "LawfulLotsModel" (198 : Nat) "LawfulLotsModel" "fault" "I") ∈ gt := List.mem_filter.mpr ⟨in_5 (List.mem_of_getElem? (i := 64) rfl), rfl⟩
set_option maxRecDepth 10000 in
theorem lk_1025 : (Jvm.Cond.fieldLink "LawfulLotsModel" (204 : Nat) "LawfulLotsModel" "faultPlace" "I") ∈ gt := List.mem_filter.mpr ⟨in_5 (List.mem_of_getElem? (i := 65) rfl), rfl⟩
set_option maxRecDepth 10000 in
theorem lk_1026 : (Jvm.Cond.fieldLink "LawfulLotsModel" (207 : Nat) "LawfulLotsModel" "worst" "I") ∈ gt := List.mem_filter.mpr ⟨in_5 (List.mem_of_getElem? (i := 66) rfl), rfl⟩
set_option maxRecDepth 10000 in
theorem lk_1027 : (Jvm.Cond.fieldLink "LawfulLotsModel" (210 : Nat) "LawfulLotsModel" "worstPlace" "I") ∈ gt := List.mem_filter.mpr ⟨in_5 (List.mem_of_getElem? (i := 67) rfl), rfl⟩
set_option maxRecDepth 10000 in
theorem lk_1028 : (Jvm.Cond.fieldLink "LawfulLotsModel" (37 : Nat) "LawfulLotsModel" "place" "I") ∈ gt := List.mem_filter.mpr ⟨in_5 (List.mem_of_getElem? (i := 68) rfl), rfl⟩
set_option maxRecDepth 10000 in
theorem lk_1029 : (Jvm.Cond.fieldLink "LawfulLotsModel" (228 : Nat) "LawfulLotsModel" "live" "I") ∈ gt := List.mem_filter.mpr ⟨in_5 (List.mem_of_getElem? (i := 69) rfl), rfl⟩
set_option maxRecDepth 10000 in
theorem lk_1030 : (Jvm.Cond.fieldLink "LawfulLotsModel" (231 : Nat) "LawfulLotsModel" "side" "I") ∈ gt := List.mem_filter.mpr ⟨in_5 (List.mem_of_getElem? (i := 70) rfl), rfl⟩
set_option maxRecDepth 10000 in
theorem lk_1031 : (Jvm.Cond.fieldLink "LawfulLotsModel" (40 : Nat) "LawfulLotsModel" "fields" "[I") ∈ gt := List.mem_filter.mpr ⟨in_5 (List.mem_of_getElem? (i := 71) rfl), rfl⟩
set_option maxRecDepth 10000 in
theorem lk_1032 : (Jvm.Cond.fieldLink "LawfulLotsModel" (43 : Nat) "LawfulLotsModel" "fieldName" "[J") ∈ gt := List.mem_filter.mpr ⟨in_5 (List.mem_of_getElem? (i := 72) rfl), rfl⟩
set_option maxRecDepth 10000 in
theorem lk_1033 : (Jvm.Cond.fieldLink "LawfulLotsModel" (46 : Nat) "LawfulLotsModel" "fieldFrom" "[I") ∈ gt := List.mem_filter.mpr ⟨in_5 (List.mem_of_getElem? (i := 73) rfl), rfl⟩
set_option maxRecDepth 10000 in
theorem lk_1034 : (Jvm.Cond.fieldLink "LawfulLotsModel" (49 : Nat) "LawfulLotsModel" "fieldMany" "[I") ∈ gt := List.mem_filter.mpr ⟨in_5 (List.mem_of_getElem? (i := 74) rfl), rfl⟩
set_option maxRecDepth 10000 in
theorem lk_1035 : (Jvm.Cond.fieldLink "LawfulLotsModel" (234 : Nat) "LawfulLotsModel" "inputsSo" "J") ∈ gt := List.mem_filter.mpr ⟨in_5 (List.mem_of_getElem? (i := 75) rfl), rfl⟩
set_option maxRecDepth 10000 in
theorem lk_1036 : (Jvm.Cond.fieldLink "LawfulLotsModel" (52 : Nat) "LawfulLotsModel" "many" "[I") ∈ gt := List.mem_filter.mpr ⟨in_5 (List.mem_of_getElem? (i := 76) rfl), rfl⟩
set_option maxRecDepth 10000 in
theorem lk_1037 : (Jvm.Cond.fieldLink "LawfulLotsModel" (55 : Nat) "LawfulLotsModel" "tellInt" "[I") ∈ gt := List.mem_filter.mpr ⟨in_5 (List.mem_of_getElem? (i := 77) rfl), rfl⟩
set_option maxRecDepth 10000 in
theorem lk_1038 : (Jvm.Cond.fieldLink "LawfulLotsModel" (58 : Nat) "LawfulLotsModel" "litFirst" "[I") ∈ gt := List.mem_filter.mpr ⟨in_5 (List.mem_of_getElem? (i := 78) rfl), rfl⟩
set_option maxRecDepth 10000 in
theorem lk_1039 : (Jvm.Cond.fieldLink "LawfulLotsModel" (61 : Nat) "LawfulLotsModel" "litLast" "[I") ∈ gt := List.mem_filter.mpr ⟨in_5 (List.mem_of_getElem? (i := 79) rfl), rfl⟩
set_option maxRecDepth 10000 in
theorem lk_1040 : (Jvm.Cond.fieldLink "LawfulLotsModel" (64 : Nat) "LawfulLotsModel" "termFrom" "[I") ∈ gt := List.mem_filter.mpr ⟨in_5 (List.mem_of_getElem? (i := 80) rfl), rfl⟩
set_option maxRecDepth 10000 in
theorem lk_1041 : (Jvm.Cond.fieldLink "LawfulLotsModel" (67 : Nat) "LawfulLotsModel" "termTo" "[I") ∈ gt := List.mem_filter.mpr ⟨in_5 (List.mem_of_getElem? (i := 81) rfl), rfl⟩
set_option maxRecDepth 10000 in
theorem lk_1042 : (Jvm.Cond.fieldLink "LawfulLotsModel" (70 : Nat) "LawfulLotsModel" "literals" "[I") ∈ gt := List.mem_filter.mpr ⟨in_5 (List.mem_of_getElem? (i := 82) rfl), rfl⟩
set_option maxRecDepth 10000 in
theorem lk_1043 : (Jvm.Cond.fieldLink "LawfulLotsModel" (73 : Nat) "LawfulLotsModel" "litSort" "[I") ∈ gt := List.mem_filter.mpr ⟨in_5 (List.mem_of_getElem? (i := 83) rfl), rfl⟩
set_option maxRecDepth 10000 in
theorem lk_1044 : (Jvm.Cond.fieldLink "LawfulLotsModel" (76 : Nat) "LawfulLotsModel" "litNot" "[Z") ∈ gt := List.mem_filter.mpr ⟨in_5 (List.mem_of_getElem? (i := 84) rfl), rfl⟩
set_option maxRecDepth 10000 in
theorem lk_1045 : (Jvm.Cond.fieldLink "LawfulLotsModel" (80 : Nat) "LawfulLotsModel" "litOr" "[Z") ∈ gt := List.mem_filter.mpr ⟨in_5 (List.mem_of_getElem? (i := 85) rfl), rfl⟩
set_option maxRecDepth 10000 in
theorem lk_1046 : (Jvm.Cond.fieldLink "LawfulLotsModel" (83 : Nat) "LawfulLotsModel" "litLeft" "[I") ∈ gt := List.mem_filter.mpr ⟨in_5 (List.mem_of_getElem? (i := 86) rfl), rfl⟩
set_option maxRecDepth 10000 in
theorem lk_1047 : (Jvm.Cond.fieldLink "LawfulLotsModel" (86 : Nat) "LawfulLotsModel" "litRight" "[I") ∈ gt := List.mem_filter.mpr ⟨in_5 (List.mem_of_getElem? (i := 87) rfl), rfl⟩
set_option maxRecDepth 10000 in
theorem lk_1048 : (Jvm.Cond.fieldLink "LawfulLotsModel" (89 : Nat) "LawfulLotsModel" "litEnd" "[I") ∈ gt := List.mem_filter.mpr ⟨in_5 (List.mem_of_getElem? (i := 88) rfl), rfl⟩
set_option maxRecDepth 10000 in
theorem lk_1049 : (Jvm.Cond.fieldLink "LawfulLotsModel" (238 : Nat) "LawfulLotsModel" "codes" "I") ∈ gt := List.mem_filter.mpr ⟨in_5 (List.mem_of_getElem? (i := 89) rfl), rfl⟩
set_option maxRecDepth 10000 in
theorem lk_1050 : (Jvm.Cond.fieldLink "LawfulLotsModel" (92 : Nat) "LawfulLotsModel" "code" "[I") ∈ gt := List.mem_filter.mpr ⟨in_5 (List.mem_of_getElem? (i := 90) rfl), rfl⟩
set_option maxRecDepth 10000 in
theorem lk_1051 : (Jvm.Cond.fieldLink "LawfulLotsModel" (95 : Nat) "LawfulLotsModel" "codeInt" "[I") ∈ gt := List.mem_filter.mpr ⟨in_5 (List.mem_of_getElem? (i := 91) rfl), rfl⟩
set_option maxRecDepth 10000 in
theorem lk_1052 : (Jvm.Cond.fieldLink "LawfulLotsModel" (250 : Nat) "LawfulLotsModel" "inNext" "Z") ∈ gt := List.mem_filter.mpr ⟨in_5 (List.mem_of_getElem? (i := 92) rfl), rfl⟩
set_option maxRecDepth 10000 in
theorem lk_1053 : (Jvm.Cond.fieldLink "LawfulLotsModel" (98 : Nat) "LawfulLotsModel" "waits" "[I") ∈ gt := List.mem_filter.mpr ⟨in_5 (List.mem_of_getElem? (i := 93) rfl), rfl⟩
set_option maxRecDepth 10000 in
theorem lk_1054 : (Jvm.Cond.fieldLink "LawfulLotsModel" (275 : Nat) "LawfulLotsModel" "waiting" "I") ∈ gt := List.mem_filter.mpr ⟨in_5 (List.mem_of_getElem? (i := 94) rfl), rfl⟩
set_option maxRecDepth 10000 in
theorem lk_1055 : (Jvm.Cond.fieldLink "LawfulLotsModel" (303 : Nat) "LawfulLotsModel" "inputs" "I") ∈ gt := List.mem_filter.mpr ⟨in_5 (List.mem_of_getElem? (i := 95) rfl), rfl⟩
set_option maxRecDepth 10000 in
theorem lk_1056 : (Jvm.Cond.fieldLink "LawfulLotsModel" (101 : Nat) "LawfulLotsModel" "stride" "[I") ∈ gt := List.mem_filter.mpr ⟨in_5 (List.mem_of_getElem? (i := 96) rfl), rfl⟩
set_option maxRecDepth 10000 in
theorem lk_1057 : (Jvm.Cond.fieldLink "LawfulLotsModel" (105 : Nat) "LawfulLotsModel" "lawBits" "[I") ∈ gt := List.mem_filter.mpr ⟨in_5 (List.mem_of_getElem? (i := 97) rfl), rfl⟩
set_option maxRecDepth 10000 in
theorem lk_1058 : (Jvm.Cond.fieldLink "LawfulLotsModel" (108 : Nat) "LawfulLotsModel" "softBits" "[I") ∈ gt := List.mem_filter.mpr ⟨in_5 (List.mem_of_getElem? (i := 98) rfl), rfl⟩
set_option maxRecDepth 10000 in
theorem lk_1059 : (Jvm.Cond.fieldLink "LawfulLotsModel" (111 : Nat) "LawfulLotsModel" "binBits" "[I") ∈ gt := List.mem_filter.mpr ⟨in_5 (List.mem_of_getElem? (i := 99) rfl), rfl⟩
set_option maxRecDepth 10000 in
theorem lk_1060 : (Jvm.Cond.fieldLink "LawfulLotsModel" (114 : Nat) "LawfulLotsModel" "vals" "[I") ∈ gt := List.mem_filter.mpr ⟨in_5 (List.mem_of_getElem? (i := 100) rfl), rfl⟩
set_option maxRecDepth 10000 in
theorem lk_1061 : (Jvm.Cond.fieldLink "LawfulLotsModel" (117 : Nat) "LawfulLotsModel" "olds" "[I") ∈ gt := List.mem_filter.mpr ⟨in_5 (List.mem_of_getElem? (i := 101) rfl), rfl⟩
set_option maxRecDepth 10000 in
theorem lk_1062 : (Jvm.Cond.fieldLink "LawfulLotsModel" (120 : Nat) "LawfulLotsModel" "pile" "[I") ∈ gt := List.mem_filter.mpr ⟨in_5 (List.mem_of_getElem? (i := 102) rfl), rfl⟩
set_option maxRecDepth 10000 in
theorem lk_1063 : (Jvm.Cond.fieldLink "LawfulLotsModel" (123 : Nat) "LawfulLotsModel" "on" "I") ∈ gt := List.mem_filter.mpr ⟨in_5 (List.mem_of_getElem? (i := 103) rfl), rfl⟩
set_option maxRecDepth 10000 in
theorem lk_1064 : (Jvm.Cond.fieldLink "LawfulLotsModel" (315 : Nat) "LawfulLotsModel" "kept" "I") ∈ gt := List.mem_filter.mpr ⟨in_5 (List.mem_of_getElem? (i := 104) rfl), rfl⟩
set_option maxRecDepth 10000 in
theorem lk_1065 : (Jvm.Cond.fieldLink "LawfulLotsModel" (326 : Nat) "LawfulLotsModel" "lawful" "I") ∈ gt := List.mem_filter.mpr ⟨in_5 (List.mem_of_getElem? (i := 105) rfl), rfl⟩
set_option maxRecDepth 10000 in
theorem lk_1066 : (Jvm.Cond.fieldLink "LawfulLotsModel" (126 : Nat) "LawfulLotsModel" "input" "[I") ∈ gt := List.mem_filter.mpr ⟨in_5 (List.mem_of_getElem? (i := 106) rfl), rfl⟩
set_option maxRecDepth 10000 in
theorem lk_1067 : (Jvm.Cond.fieldLink "LawfulLotsModel" (129 : Nat) "LawfulLotsModel" "shares" "[I") ∈ gt := List.mem_filter.mpr ⟨in_5 (List.mem_of_getElem? (i := 107) rfl), rfl⟩
set_option maxRecDepth 10000 in
theorem lk_1068 : (Jvm.Cond.fieldLink "LawfulLotsModel" (329 : Nat) "LawfulLotsModel" "sum" "I") ∈ gt := List.mem_filter.mpr ⟨in_5 (List.mem_of_getElem? (i := 108) rfl), rfl⟩
set_option maxRecDepth 10000 in
theorem lk_1069 : (Jvm.Cond.fieldLink "LawfulLotsModel" (244 : Nat) "LawfulLotsModel" "logs" "I") ∈ gt := List.mem_filter.mpr ⟨in_5 (List.mem_of_getElem? (i := 109) rfl), rfl⟩
set_option maxRecDepth 10000 in
theorem lk_1070 : (Jvm.Cond.fieldLink "LawfulLotsModel" (132 : Nat) "LawfulLotsModel" "log" "[I") ∈ gt := List.mem_filter.mpr ⟨in_5 (List.mem_of_getElem? (i := 110) rfl), rfl⟩
set_option maxRecDepth 10000 in
theorem lk_1071 : (Jvm.Cond.fieldLink "LawfulLotsModel" (135 : Nat) "LawfulLotsModel" "lastOf" "[I") ∈ gt := List.mem_filter.mpr ⟨in_5 (List.mem_of_getElem? (i := 111) rfl), rfl⟩
set_option maxRecDepth 10000 in
theorem lk_1072 : (Jvm.Cond.fieldLink "LawfulLotsModel" (138 : Nat) "LawfulLotsModel" "fewest" "[I") ∈ gt := List.mem_filter.mpr ⟨in_5 (List.mem_of_getElem? (i := 112) rfl), rfl⟩
set_option maxRecDepth 10000 in
theorem lk_1073 : (Jvm.Cond.fieldLink "LawfulLotsModel" (366 : Nat) "LawfulLotsModel" "wanted" "I") ∈ gt := List.mem_filter.mpr ⟨in_5 (List.mem_of_getElem? (i := 113) rfl), rfl⟩
set_option maxRecDepth 10000 in
theorem lk_1074 : (Jvm.Cond.fieldLink "LawfulLotsModel" (141 : Nat) "LawfulLotsModel" "found" "[I") ∈ gt := List.mem_filter.mpr ⟨in_5 (List.mem_of_getElem? (i := 114) rfl), rfl⟩
set_option maxRecDepth 10000 in
theorem lk_1075 : (Jvm.Cond.fieldLink "LawfulLotsModel" (144 : Nat) "LawfulLotsModel" "isAsked" "[Z") ∈ gt := List.mem_filter.mpr ⟨in_5 (List.mem_of_getElem? (i := 115) rfl), rfl⟩
set_option maxRecDepth 10000 in
theorem lk_1076 : (Jvm.Cond.fieldLink "LawfulLotsModel" (147 : Nat) "LawfulLotsModel" "follows" "[Z") ∈ gt := List.mem_filter.mpr ⟨in_5 (List.mem_of_getElem? (i := 116) rfl), rfl⟩
set_option maxRecDepth 10000 in
theorem lk_1077 : (Jvm.Cond.fieldLink "LawfulLotsModel" (150 : Nat) "LawfulLotsModel" "rowsFrom" "[J") ∈ gt := List.mem_filter.mpr ⟨in_5 (List.mem_of_getElem? (i := 117) rfl), rfl⟩
set_option maxRecDepth 10000 in
theorem lk_1213 : (Jvm.Cond.arrayClass Jvm.ClassFile.FieldType.boolean) ∈ gt := List.mem_filter.mpr ⟨in_6 (List.mem_of_getElem? (i := 13) rfl), rfl⟩
set_option maxRecDepth 10000 in
theorem lk_1214 : (Jvm.Cond.methodLink "LawfulLotsLaw" (17 : Nat) ({ cls := "LawfulLotsModel", name := "feed", desc := "(IIIII)I" } : Jvm.MethodName)) ∈ gt := List.mem_filter.mpr ⟨in_6 (List.mem_of_getElem? (i := 14) rfl), rfl⟩
set_option maxRecDepth 10000 in
theorem lk_1215 : (Jvm.Cond.instanceMethod ({ cls := "LawfulLotsModel", name := "feed", desc := "(IIIII)I" } : Jvm.MethodName)) ∈ gt := List.mem_filter.mpr ⟨in_6 (List.mem_of_getElem? (i := 15) rfl), rfl⟩
set_option maxRecDepth 10000 in
theorem lk_1216 : (Jvm.Cond.selects "LawfulLotsModel" ({ cls := "LawfulLotsModel", name := "feed", desc := "(IIIII)I" } : Jvm.MethodName) ({ cls := "LawfulLotsModel", name := "feed", desc := "(IIIII)I" } : Jvm.MethodName)) ∈ gt := List.mem_filter.mpr ⟨in_6 (List.mem_of_getElem? (i := 16) rfl), rfl⟩
set_option maxRecDepth 10000 in
theorem lk_1217 : (Jvm.Cond.code ({ cls := "LawfulLotsModel", name := "feed", desc := "(IIIII)I" } : Jvm.MethodName) prog_11_method_3_code (6 : Nat) (Option.some Jvm.ClassFile.FieldType.int)) ∈ gt := List.mem_filter.mpr ⟨in_6 (List.mem_of_getElem? (i := 17) rfl), rfl⟩
set_option maxRecDepth 10000 in
theorem lk_1218 : (Jvm.Cond.methodLink "LawfulLotsModel" (163 : Nat) ({ cls := "LawfulLotsModel", name := "put", desc := "(I)V" } : Jvm.MethodName)) ∈ gt := List.mem_filter.mpr ⟨in_6 (List.mem_of_getElem? (i := 18) rfl), rfl⟩
set_option maxRecDepth 10000 in
theorem lk_1220 : (Jvm.Cond.instanceMethod ({ cls := "LawfulLotsModel", name := "put", desc := "(I)V" } : Jvm.MethodName)) ∈ gt := List.mem_filter.mpr ⟨in_6 (List.mem_of_getElem? (i := 20) rfl), rfl⟩
set_option maxRecDepth 10000 in
theorem lk_1221 : (Jvm.Cond.code ({ cls := "LawfulLotsModel", name := "put", desc := "(I)V" } : Jvm.MethodName) prog_11_method_4_code (3 : Nat) (Option.none : Option Jvm.ClassFile.FieldType)) ∈ gt := List.mem_filter.mpr ⟨in_6 (List.mem_of_getElem? (i := 21) rfl), rfl⟩
set_option maxRecDepth 10000 in
theorem lk_1222 : (Jvm.Cond.methodLink "LawfulLotsLaw" (22 : Nat) ({ cls := "LawfulLotsModel", name := "back", desc := "(I)I" } : Jvm.MethodName)) ∈ gt := List.mem_filter.mpr ⟨in_6 (List.mem_of_getElem? (i := 22) rfl), rfl⟩
set_option maxRecDepth 10000 in
theorem lk_1223 : (Jvm.Cond.instanceMethod ({ cls := "LawfulLotsModel", name := "back", desc := "(I)I" } : Jvm.MethodName)) ∈ gt := List.mem_filter.mpr ⟨in_6 (List.mem_of_getElem? (i := 23) rfl), rfl⟩
set_option maxRecDepth 10000 in
theorem lk_1224 : (Jvm.Cond.selects "LawfulLotsModel" ({ cls := "LawfulLotsModel", name := "back", desc := "(I)I" } : Jvm.MethodName) ({ cls := "LawfulLotsModel", name := "back", desc := "(I)I" } : Jvm.MethodName)) ∈ gt := List.mem_filter.mpr ⟨in_6 (List.mem_of_getElem? (i := 24) rfl), rfl⟩
set_option maxRecDepth 10000 in
theorem lk_1225 : (Jvm.Cond.code ({ cls := "LawfulLotsModel", name := "back", desc := "(I)I" } : Jvm.MethodName) prog_11_method_5_code (2 : Nat) (Option.some Jvm.ClassFile.FieldType.int)) ∈ gt := List.mem_filter.mpr ⟨in_6 (List.mem_of_getElem? (i := 25) rfl), rfl⟩
set_option maxRecDepth 10000 in
theorem lk_1226 : (Jvm.Cond.methodLink "LawfulLotsLaw" (27 : Nat) ({ cls := "LawfulLotsModel", name := "read", desc := "()I" } : Jvm.MethodName)) ∈ gt := List.mem_filter.mpr ⟨in_6 (List.mem_of_getElem? (i := 26) rfl), rfl⟩
set_option maxRecDepth 10000 in
theorem lk_1227 : (Jvm.Cond.instanceMethod ({ cls := "LawfulLotsModel", name := "read", desc := "()I" } : Jvm.MethodName)) ∈ gt := List.mem_filter.mpr ⟨in_6 (List.mem_of_getElem? (i := 27) rfl), rfl⟩
set_option maxRecDepth 10000 in
theorem lk_1228 : (Jvm.Cond.selects "LawfulLotsModel" ({ cls := "LawfulLotsModel", name := "read", desc := "()I" } : Jvm.MethodName) ({ cls := "LawfulLotsModel", name := "read", desc := "()I" } : Jvm.MethodName)) ∈ gt := List.mem_filter.mpr ⟨in_6 (List.mem_of_getElem? (i := 28) rfl), rfl⟩
set_option maxRecDepth 10000 in
theorem lk_1229 : (Jvm.Cond.code ({ cls := "LawfulLotsModel", name := "read", desc := "()I" } : Jvm.MethodName) prog_11_method_19_code (2 : Nat) (Option.some Jvm.ClassFile.FieldType.int)) ∈ gt := List.mem_filter.mpr ⟨in_6 (List.mem_of_getElem? (i := 29) rfl), rfl⟩
set_option maxRecDepth 10000 in
theorem lk_1230 : (Jvm.Cond.methodLink "LawfulLotsModel" (222 : Nat) ({ cls := "LawfulLotsModel", name := "cut", desc := "()V" } : Jvm.MethodName)) ∈ gt := List.mem_filter.mpr ⟨in_6 (List.mem_of_getElem? (i := 30) rfl), rfl⟩
set_option maxRecDepth 10000 in
theorem lk_1232 : (Jvm.Cond.instanceMethod ({ cls := "LawfulLotsModel", name := "cut", desc := "()V" } : Jvm.MethodName)) ∈ gt := List.mem_filter.mpr ⟨in_6 (List.mem_of_getElem? (i := 32) rfl), rfl⟩
set_option maxRecDepth 10000 in
theorem lk_1233 : (Jvm.Cond.code ({ cls := "LawfulLotsModel", name := "cut", desc := "()V" } : Jvm.MethodName) prog_11_method_12_code (8 : Nat) (Option.none : Option Jvm.ClassFile.FieldType)) ∈ gt := List.mem_filter.mpr ⟨in_6 (List.mem_of_getElem? (i := 33) rfl), rfl⟩
set_option maxRecDepth 10000 in
theorem lk_1234 : (Jvm.Cond.methodLink "LawfulLotsModel" (183 : Nat) ({ cls := "LawfulLotsModel", name := "at", desc := "(I)I" } : Jvm.MethodName)) ∈ gt := List.mem_filter.mpr ⟨in_6 (List.mem_of_getElem? (i := 34) rfl), rfl⟩
set_option maxRecDepth 10000 in
theorem lk_1236 : (Jvm.Cond.instanceMethod ({ cls := "LawfulLotsModel", name := "at", desc := "(I)I" } : Jvm.MethodName)) ∈ gt := List.mem_filter.mpr ⟨in_6 (List.mem_of_getElem? (i := 36) rfl), rfl⟩
set_option maxRecDepth 10000 in
theorem lk_1237 : (Jvm.Cond.code ({ cls := "LawfulLotsModel", name := "at", desc := "(I)I" } : Jvm.MethodName) prog_11_method_6_code (2 : Nat) (Option.some Jvm.ClassFile.FieldType.int)) ∈ gt := List.mem_filter.mpr ⟨in_6 (List.mem_of_getElem? (i := 37) rfl), rfl⟩
set_option maxRecDepth 10000 in
theorem lk_1238 : (Jvm.Cond.methodLink "LawfulLotsModel" (187 : Nat) ({ cls := "LawfulLotsModel", name := "token", desc := "(IIIJ)V" } : Jvm.MethodName)) ∈ gt := List.mem_filter.mpr ⟨in_6 (List.mem_of_getElem? (i := 38) rfl), rfl⟩
set_option maxRecDepth 10000 in
theorem lk_1240 : (Jvm.Cond.instanceMethod ({ cls := "LawfulLotsModel", name := "token", desc := "(IIIJ)V" } : Jvm.MethodName)) ∈ gt := List.mem_filter.mpr ⟨in_6 (List.mem_of_getElem? (i := 40) rfl), rfl⟩
set_option maxRecDepth 10000 in
theorem lk_1241 : (Jvm.Cond.code ({ cls := "LawfulLotsModel", name := "token", desc := "(IIIJ)V" } : Jvm.MethodName) prog_11_method_11_code (6 : Nat) (Option.none : Option Jvm.ClassFile.FieldType)) ∈ gt := List.mem_filter.mpr ⟨in_6 (List.mem_of_getElem? (i := 41) rfl), rfl⟩
set_option maxRecDepth 10000 in
theorem lk_1242 : (Jvm.Cond.methodLink "LawfulLotsModel" (191 : Nat) ({ cls := "LawfulLotsModel", name := "isLetter", desc := "(I)Z" } : Jvm.MethodName)) ∈ gt := List.mem_filter.mpr ⟨in_6 (List.mem_of_getElem? (i := 42) rfl), rfl⟩
set_option maxRecDepth 10000 in
theorem lk_1243 : (Jvm.Cond.static ({ cls := "LawfulLotsModel", name := "isLetter", desc := "(I)Z" } : Jvm.MethodName)) ∈ gt := List.mem_filter.mpr ⟨in_6 (List.mem_of_getElem? (i := 43) rfl), rfl⟩
set_option maxRecDepth 10000 in
theorem lk_1244 : (Jvm.Cond.code ({ cls := "LawfulLotsModel", name := "isLetter", desc := "(I)Z" } : Jvm.MethodName) prog_11_method_8_code (1 : Nat) (Option.some Jvm.ClassFile.FieldType.boolean)) ∈ gt := List.mem_filter.mpr ⟨in_6 (List.mem_of_getElem? (i := 44) rfl), rfl⟩
set_option maxRecDepth 10000 in
theorem lk_1245 : (Jvm.Cond.methodLink "LawfulLotsModel" (194 : Nat) ({ cls := "LawfulLotsModel", name := "sign", desc := "(III)I" } : Jvm.MethodName)) ∈ gt := List.mem_filter.mpr ⟨in_6 (List.mem_of_getElem? (i := 45) rfl), rfl⟩
set_option maxRecDepth 10000 in
theorem lk_1247 : (Jvm.Cond.instanceMethod ({ cls := "LawfulLotsModel", name := "sign", desc := "(III)I" } : Jvm.MethodName)) ∈ gt := List.mem_filter.mpr ⟨in_6 (List.mem_of_getElem? (i := 47) rfl), rfl⟩
set_option maxRecDepth 10000 in
theorem lk_1248 : (Jvm.Cond.code ({ cls := "LawfulLotsModel", name := "sign", desc := "(III)I" } : Jvm.MethodName) prog_11_method_13_code (6 : Nat) (Option.some Jvm.ClassFile.FieldType.int)) ∈ gt := List.mem_filter.mpr ⟨in_6 (List.mem_of_getElem? (i := 48) rfl), rfl⟩
set_option maxRecDepth 10000 in
theorem lk_1249 : (Jvm.Cond.methodLink "LawfulLotsModel" (216 : Nat) ({ cls := "LawfulLotsModel", name := "is", desc := "(I)Z" } : Jvm.MethodName)) ∈ gt := List.mem_filter.mpr ⟨in_6 (List.mem_of_getElem? (i := 49) rfl), rfl⟩
set_option maxRecDepth 10000 in
theorem lk_1251 : (Jvm.Cond.instanceMethod ({ cls := "LawfulLotsModel", name := "is", desc := "(I)Z" } : Jvm.MethodName)) ∈ gt := List.mem_filter.mpr ⟨in_6 (List.mem_of_getElem? (i := 51) rfl), rfl⟩
set_option maxRecDepth 10000 in
theorem lk_1252 : (Jvm.Cond.code ({ cls := "LawfulLotsModel", name := "is", desc := "(I)Z" } : Jvm.MethodName) prog_11_method_14_code (2 : Nat) (Option.some Jvm.ClassFile.FieldType.boolean)) ∈ gt := List.mem_filter.mpr ⟨in_6 (List.mem_of_getElem? (i := 52) rfl), rfl⟩
set_option maxRecDepth 10000 in
theorem lk_1253 : (Jvm.Cond.methodLink "LawfulLotsModel" (241 : Nat) ({ cls := "LawfulLotsModel", name := "tell", desc := "()V" } : Jvm.MethodName)) ∈ gt := List.mem_filter.mpr ⟨in_6 (List.mem_of_getElem? (i := 53) rfl), rfl⟩
set_option maxRecDepth 10000 in
theorem lk_1255 : (Jvm.Cond.instanceMethod ({ cls := "LawfulLotsModel", name := "tell", desc := "()V" } : Jvm.MethodName)) ∈ gt := List.mem_filter.mpr ⟨in_6 (List.mem_of_getElem? (i := 55) rfl), rfl⟩
set_option maxRecDepth 10000 in
theorem lk_1256 : (Jvm.Cond.code ({ cls := "LawfulLotsModel", name := "tell", desc := "()V" } : Jvm.MethodName) prog_11_method_21_code (5 : Nat) (Option.none : Option Jvm.ClassFile.FieldType)) ∈ gt := List.mem_filter.mpr ⟨in_6 (List.mem_of_getElem? (i := 56) rfl), rfl⟩
set_option maxRecDepth 10000 in
theorem lk_1257 : (Jvm.Cond.methodLink "LawfulLotsModel" (247 : Nat) ({ cls := "LawfulLotsModel", name := "tellField", desc := "()V" } : Jvm.MethodName)) ∈ gt := List.mem_filter.mpr ⟨in_6 (List.mem_of_getElem? (i := 57) rfl), rfl⟩
set_option maxRecDepth 10000 in
theorem lk_1259 : (Jvm.Cond.instanceMethod ({ cls := "LawfulLotsModel", name := "tellField", desc := "()V" } : Jvm.MethodName)) ∈ gt := List.mem_filter.mpr ⟨in_6 (List.mem_of_getElem? (i := 59) rfl), rfl⟩
set_option maxRecDepth 10000 in
theorem lk_1260 : (Jvm.Cond.code ({ cls := "LawfulLotsModel", name := "tellField", desc := "()V" } : Jvm.MethodName) prog_11_method_22_code (6 : Nat) (Option.none : Option Jvm.ClassFile.FieldType)) ∈ gt := List.mem_filter.mpr ⟨in_6 (List.mem_of_getElem? (i := 60) rfl), rfl⟩
set_option maxRecDepth 10000 in
theorem lk_1261 : (Jvm.Cond.methodLink "LawfulLotsModel" (213 : Nat) ({ cls := "LawfulLotsModel", name := "fail", desc := "(I)V" } : Jvm.MethodName)) ∈ gt := List.mem_filter.mpr ⟨in_6 (List.mem_of_getElem? (i := 61) rfl), rfl⟩
set_option maxRecDepth 10000 in
theorem lk_1263 : (Jvm.Cond.instanceMethod ({ cls := "LawfulLotsModel", name := "fail", desc := "(I)V" } : Jvm.MethodName)) ∈ gt := List.mem_filter.mpr ⟨in_6 (List.mem_of_getElem? (i := 63) rfl), rfl⟩
set_option maxRecDepth 10000 in
theorem lk_1264 : (Jvm.Cond.code ({ cls := "LawfulLotsModel", name := "fail", desc := "(I)V" } : Jvm.MethodName) prog_11_method_15_code (2 : Nat) (Option.none : Option Jvm.ClassFile.FieldType)) ∈ gt := List.mem_filter.mpr ⟨in_6 (List.mem_of_getElem? (i := 64) rfl), rfl⟩
set_option maxRecDepth 10000 in
theorem lk_1265 : (Jvm.Cond.methodLink "LawfulLotsModel" (219 : Nat) ({ cls := "LawfulLotsModel", name := "next", desc := "()V" } : Jvm.MethodName)) ∈ gt := List.mem_filter.mpr ⟨in_6 (List.mem_of_getElem? (i := 65) rfl), rfl⟩
set_option maxRecDepth 10000 in
theorem lk_1267 : (Jvm.Cond.instanceMethod ({ cls := "LawfulLotsModel", name := "next", desc := "()V" } : Jvm.MethodName)) ∈ gt := List.mem_filter.mpr ⟨in_6 (List.mem_of_getElem? (i := 67) rfl), rfl⟩
set_option maxRecDepth 10000 in
theorem lk_1268 : (Jvm.Cond.code ({ cls := "LawfulLotsModel", name := "next", desc := "()V" } : Jvm.MethodName) prog_11_method_17_code (1 : Nat) (Option.none : Option Jvm.ClassFile.FieldType)) ∈ gt := List.mem_filter.mpr ⟨in_6 (List.mem_of_getElem? (i := 68) rfl), rfl⟩
set_option maxRecDepth 10000 in
theorem lk_1269 : (Jvm.Cond.methodLink "LawfulLotsModel" (254 : Nat) ({ cls := "LawfulLotsModel", name := "must", desc := "(I)V" } : Jvm.MethodName)) ∈ gt := List.mem_filter.mpr ⟨in_6 (List.mem_of_getElem? (i := 69) rfl), rfl⟩
set_option maxRecDepth 10000 in
theorem lk_1271 : (Jvm.Cond.instanceMethod ({ cls := "LawfulLotsModel", name := "must", desc := "(I)V" } : Jvm.MethodName)) ∈ gt := List.mem_filter.mpr ⟨in_6 (List.mem_of_getElem? (i := 71) rfl), rfl⟩
set_option maxRecDepth 10000 in
theorem lk_1272 : (Jvm.Cond.code ({ cls := "LawfulLotsModel", name := "must", desc := "(I)V" } : Jvm.MethodName) prog_11_method_18_code (2 : Nat) (Option.none : Option Jvm.ClassFile.FieldType)) ∈ gt := List.mem_filter.mpr ⟨in_6 (List.mem_of_getElem? (i := 72) rfl), rfl⟩
set_option maxRecDepth 10000 in
theorem lk_1273 : (Jvm.Cond.methodLink "LawfulLotsModel" (264 : Nat) ({ cls := "LawfulLotsModel", name := "wrong", desc := "(II)V" } : Jvm.MethodName)) ∈ gt := List.mem_filter.mpr ⟨in_6 (List.mem_of_getElem? (i := 73) rfl), rfl⟩
set_option maxRecDepth 10000 in
theorem lk_1275 : (Jvm.Cond.instanceMethod ({ cls := "LawfulLotsModel", name := "wrong", desc := "(II)V" } : Jvm.MethodName)) ∈ gt := List.mem_filter.mpr ⟨in_6 (List.mem_of_getElem? (i := 75) rfl), rfl⟩
set_option maxRecDepth 10000 in
theorem lk_1276 : (Jvm.Cond.code ({ cls := "LawfulLotsModel", name := "wrong", desc := "(II)V" } : Jvm.MethodName) prog_11_method_16_code (4 : Nat) (Option.none : Option Jvm.ClassFile.FieldType)) ∈ gt := List.mem_filter.mpr ⟨in_6 (List.mem_of_getElem? (i := 76) rfl), rfl⟩
set_option maxRecDepth 10000 in
theorem lk_1277 : (Jvm.Cond.constantLong "LawfulLotsModel" (268 : Nat) (32768 : Int64)) ∈ gt := List.mem_filter.mpr ⟨in_6 (List.mem_of_getElem? (i := 77) rfl), rfl⟩
set_option maxRecDepth 10000 in
theorem lk_1278 : (Jvm.Cond.constantLong "LawfulLotsModel" (270 : Nat) (32769 : Int64)) ∈ gt := List.mem_filter.mpr ⟨in_6 (List.mem_of_getElem? (i := 78) rfl), rfl⟩
set_option maxRecDepth 10000 in
theorem lk_1279 : (Jvm.Cond.methodLink "LawfulLotsModel" (257 : Nat) ({ cls := "LawfulLotsModel", name := "expression", desc := "()V" } : Jvm.MethodName)) ∈ gt := List.mem_filter.mpr ⟨in_6 (List.mem_of_getElem? (i := 79) rfl), rfl⟩
set_option maxRecDepth 10000 in
theorem lk_1281 : (Jvm.Cond.instanceMethod ({ cls := "LawfulLotsModel", name := "expression", desc := "()V" } : Jvm.MethodName)) ∈ gt := List.mem_filter.mpr ⟨in_6 (List.mem_of_getElem? (i := 81) rfl), rfl⟩
set_option maxRecDepth 10000 in
theorem lk_1282 : (Jvm.Cond.code ({ cls := "LawfulLotsModel", name := "expression", desc := "()V" } : Jvm.MethodName) prog_11_method_27_code (4 : Nat) (Option.none : Option Jvm.ClassFile.FieldType)) ∈ gt := List.mem_filter.mpr ⟨in_6 (List.mem_of_getElem? (i := 82) rfl), rfl⟩
set_option maxRecDepth 10000 in
theorem lk_1283 : (Jvm.Cond.methodLink "LawfulLotsModel" (278 : Nat) ({ cls := "LawfulLotsModel", name := "unit", desc := "()V" } : Jvm.MethodName)) ∈ gt := List.mem_filter.mpr ⟨in_6 (List.mem_of_getElem? (i := 83) rfl), rfl⟩
set_option maxRecDepth 10000 in
theorem lk_1285 : (Jvm.Cond.instanceMethod ({ cls := "LawfulLotsModel", name := "unit", desc := "()V" } : Jvm.MethodName)) ∈ gt := List.mem_filter.mpr ⟨in_6 (List.mem_of_getElem? (i := 85) rfl), rfl⟩
set_option maxRecDepth 10000 in
theorem lk_1286 : (Jvm.Cond.code ({ cls := "LawfulLotsModel", name := "unit", desc := "()V" } : Jvm.MethodName) prog_11_method_28_code (3 : Nat) (Option.none : Option Jvm.ClassFile.FieldType)) ∈ gt := List.mem_filter.mpr ⟨in_6 (List.mem_of_getElem? (i := 86) rfl), rfl⟩
set_option maxRecDepth 10000 in
theorem lk_1287 : (Jvm.Cond.methodLink "LawfulLotsModel" (272 : Nat) ({ cls := "LawfulLotsModel", name := "emit", desc := "(II)V" } : Jvm.MethodName)) ∈ gt := List.mem_filter.mpr ⟨in_6 (List.mem_of_getElem? (i := 87) rfl), rfl⟩
set_option maxRecDepth 10000 in
theorem lk_1289 : (Jvm.Cond.instanceMethod ({ cls := "LawfulLotsModel", name := "emit", desc := "(II)V" } : Jvm.MethodName)) ∈ gt := List.mem_filter.mpr ⟨in_6 (List.mem_of_getElem? (i := 89) rfl), rfl⟩
set_option maxRecDepth 10000 in
theorem lk_1290 : (Jvm.Cond.code ({ cls := "LawfulLotsModel", name := "emit", desc := "(II)V" } : Jvm.MethodName) prog_11_method_24_code (3 : Nat) (Option.none : Option Jvm.ClassFile.FieldType)) ∈ gt := List.mem_filter.mpr ⟨in_6 (List.mem_of_getElem? (i := 90) rfl), rfl⟩
set_option maxRecDepth 10000 in
theorem lk_1291 : (Jvm.Cond.methodLink "LawfulLotsModel" (284 : Nat) ({ cls := "LawfulLotsModel", name := "named", desc := "(II)V" } : Jvm.MethodName)) ∈ gt := List.mem_filter.mpr ⟨in_6 (List.mem_of_getElem? (i := 91) rfl), rfl⟩
set_option maxRecDepth 10000 in
theorem lk_1293 : (Jvm.Cond.instanceMethod ({ cls := "LawfulLotsModel", name := "named", desc := "(II)V" } : Jvm.MethodName)) ∈ gt := List.mem_filter.mpr ⟨in_6 (List.mem_of_getElem? (i := 93) rfl), rfl⟩
set_option maxRecDepth 10000 in
theorem lk_1294 : (Jvm.Cond.code ({ cls := "LawfulLotsModel", name := "named", desc := "(II)V" } : Jvm.MethodName) prog_11_method_25_code (4 : Nat) (Option.none : Option Jvm.ClassFile.FieldType)) ∈ gt := List.mem_filter.mpr ⟨in_6 (List.mem_of_getElem? (i := 94) rfl), rfl⟩
set_option maxRecDepth 10000 in
theorem lk_1295 : (Jvm.Cond.methodLink "LawfulLotsModel" (281 : Nat) ({ cls := "LawfulLotsModel", name := "comesOut", desc := "(Z)V" } : Jvm.MethodName)) ∈ gt := List.mem_filter.mpr ⟨in_6 (List.mem_of_getElem? (i := 95) rfl), rfl⟩
set_option maxRecDepth 10000 in
theorem lk_1297 : (Jvm.Cond.instanceMethod ({ cls := "LawfulLotsModel", name := "comesOut", desc := "(Z)V" } : Jvm.MethodName)) ∈ gt := List.mem_filter.mpr ⟨in_6 (List.mem_of_getElem? (i := 97) rfl), rfl⟩
set_option maxRecDepth 10000 in
theorem lk_1298 : (Jvm.Cond.code ({ cls := "LawfulLotsModel", name := "comesOut", desc := "(Z)V" } : Jvm.MethodName) prog_11_method_26_code (3 : Nat) (Option.none : Option Jvm.ClassFile.FieldType)) ∈ gt := List.mem_filter.mpr ⟨in_6 (List.mem_of_getElem? (i := 98) rfl), rfl⟩
set_option maxRecDepth 10000 in
theorem lk_1299 : (Jvm.Cond.methodLink "LawfulLotsModel" (260 : Nat) ({ cls := "LawfulLotsModel", name := "literal", desc := "(Z)V" } : Jvm.MethodName)) ∈ gt := List.mem_filter.mpr ⟨in_6 (List.mem_of_getElem? (i := 99) rfl), rfl⟩
set_option maxRecDepth 10000 in
theorem lk_1301 : (Jvm.Cond.instanceMethod ({ cls := "LawfulLotsModel", name := "literal", desc := "(Z)V" } : Jvm.MethodName)) ∈ gt := List.mem_filter.mpr ⟨in_6 (List.mem_of_getElem? (i := 101) rfl), rfl⟩
set_option maxRecDepth 10000 in
theorem lk_1302 : (Jvm.Cond.code ({ cls := "LawfulLotsModel", name := "literal", desc := "(Z)V" } : Jvm.MethodName) prog_11_method_23_code (7 : Nat) (Option.none : Option Jvm.ClassFile.FieldType)) ∈ gt := List.mem_filter.mpr ⟨in_6 (List.mem_of_getElem? (i := 102) rfl), rfl⟩
set_option maxRecDepth 10000 in
theorem lk_1303 : (Jvm.Cond.methodLink "LawfulLotsLaw" (31 : Nat) ({ cls := "LawfulLotsModel", name := "place", desc := "()I" } : Jvm.MethodName)) ∈ gt := List.mem_filter.mpr ⟨in_6 (List.mem_of_getElem? (i := 103) rfl), rfl⟩
set_option maxRecDepth 10000 in
theorem lk_1304 : (Jvm.Cond.instanceMethod ({ cls := "LawfulLotsModel", name := "place", desc := "()I" } : Jvm.MethodName)) ∈ gt := List.mem_filter.mpr ⟨in_6 (List.mem_of_getElem? (i := 104) rfl), rfl⟩
set_option maxRecDepth 10000 in
theorem lk_1305 : (Jvm.Cond.selects "LawfulLotsModel" ({ cls := "LawfulLotsModel", name := "place", desc := "()I" } : Jvm.MethodName) ({ cls := "LawfulLotsModel", name := "place", desc := "()I" } : Jvm.MethodName)) ∈ gt := List.mem_filter.mpr ⟨in_6 (List.mem_of_getElem? (i := 105) rfl), rfl⟩
set_option maxRecDepth 10000 in
theorem lk_1306 : (Jvm.Cond.code ({ cls := "LawfulLotsModel", name := "place", desc := "()I" } : Jvm.MethodName) prog_11_method_20_code (1 : Nat) (Option.some Jvm.ClassFile.FieldType.int)) ∈ gt := List.mem_filter.mpr ⟨in_6 (List.mem_of_getElem? (i := 106) rfl), rfl⟩
set_option maxRecDepth 10000 in
theorem lk_1307 : (Jvm.Cond.methodLink "LawfulLotsLaw" (36 : Nat) ({ cls := "LawfulLotsModel", name := "turn", desc := "(IZ)Z" } : Jvm.MethodName)) ∈ gt := List.mem_filter.mpr ⟨in_6 (List.mem_of_getElem? (i := 107) rfl), rfl⟩
set_option maxRecDepth 10000 in
theorem lk_1308 : (Jvm.Cond.instanceMethod ({ cls := "LawfulLotsModel", name := "turn", desc := "(IZ)Z" } : Jvm.MethodName)) ∈ gt := List.mem_filter.mpr ⟨in_6 (List.mem_of_getElem? (i := 108) rfl), rfl⟩
set_option maxRecDepth 10000 in
theorem lk_1309 : (Jvm.Cond.selects "LawfulLotsModel" ({ cls := "LawfulLotsModel", name := "turn", desc := "(IZ)Z" } : Jvm.MethodName) ({ cls := "LawfulLotsModel", name := "turn", desc := "(IZ)Z" } : Jvm.MethodName)) ∈ gt := List.mem_filter.mpr ⟨in_6 (List.mem_of_getElem? (i := 109) rfl), rfl⟩
set_option maxRecDepth 10000 in
theorem lk_1310 : (Jvm.Cond.code ({ cls := "LawfulLotsModel", name := "turn", desc := "(IZ)Z" } : Jvm.MethodName) prog_11_method_42_code (3 : Nat) (Option.some Jvm.ClassFile.FieldType.boolean)) ∈ gt := List.mem_filter.mpr ⟨in_6 (List.mem_of_getElem? (i := 110) rfl), rfl⟩
set_option maxRecDepth 10000 in
theorem lk_1311 : (Jvm.Cond.methodLink "LawfulLotsLaw" (40 : Nat) ({ cls := "LawfulLotsModel", name := "lawful", desc := "()I" } : Jvm.MethodName)) ∈ gt := List.mem_filter.mpr ⟨in_6 (List.mem_of_getElem? (i := 111) rfl), rfl⟩
set_option maxRecDepth 10000 in
theorem lk_1312 : (Jvm.Cond.instanceMethod ({ cls := "LawfulLotsModel", name := "lawful", desc := "()I" } : Jvm.MethodName)) ∈ gt := List.mem_filter.mpr ⟨in_6 (List.mem_of_getElem? (i := 112) rfl), rfl⟩
set_option maxRecDepth 10000 in
theorem lk_1313 : (Jvm.Cond.selects "LawfulLotsModel" ({ cls := "LawfulLotsModel", name := "lawful", desc := "()I" } : Jvm.MethodName) ({ cls := "LawfulLotsModel", name := "lawful", desc := "()I" } : Jvm.MethodName)) ∈ gt := List.mem_filter.mpr ⟨in_6 (List.mem_of_getElem? (i := 113) rfl), rfl⟩
set_option maxRecDepth 10000 in
theorem lk_1314 : (Jvm.Cond.code ({ cls := "LawfulLotsModel", name := "lawful", desc := "()I" } : Jvm.MethodName) prog_11_method_43_code (1 : Nat) (Option.some Jvm.ClassFile.FieldType.int)) ∈ gt := List.mem_filter.mpr ⟨in_6 (List.mem_of_getElem? (i := 114) rfl), rfl⟩
set_option maxRecDepth 10000 in
theorem lk_1315 : (Jvm.Cond.methodLink "LawfulLotsLaw" (44 : Nat) ({ cls := "LawfulLotsModel", name := "kept", desc := "()I" } : Jvm.MethodName)) ∈ gt := List.mem_filter.mpr ⟨in_6 (List.mem_of_getElem? (i := 115) rfl), rfl⟩
set_option maxRecDepth 10000 in
theorem lk_1316 : (Jvm.Cond.instanceMethod ({ cls := "LawfulLotsModel", name := "kept", desc := "()I" } : Jvm.MethodName)) ∈ gt := List.mem_filter.mpr ⟨in_6 (List.mem_of_getElem? (i := 116) rfl), rfl⟩
set_option maxRecDepth 10000 in
theorem lk_1317 : (Jvm.Cond.selects "LawfulLotsModel" ({ cls := "LawfulLotsModel", name := "kept", desc := "()I" } : Jvm.MethodName) ({ cls := "LawfulLotsModel", name := "kept", desc := "()I" } : Jvm.MethodName)) ∈ gt := List.mem_filter.mpr ⟨in_6 (List.mem_of_getElem? (i := 117) rfl), rfl⟩
set_option maxRecDepth 10000 in
theorem lk_1318 : (Jvm.Cond.code ({ cls := "LawfulLotsModel", name := "kept", desc := "()I" } : Jvm.MethodName) prog_11_method_44_code (1 : Nat) (Option.some Jvm.ClassFile.FieldType.int)) ∈ gt := List.mem_filter.mpr ⟨in_6 (List.mem_of_getElem? (i := 118) rfl), rfl⟩
set_option maxRecDepth 10000 in
theorem lk_1319 : (Jvm.Cond.methodLink "LawfulLotsLaw" (49 : Nat) ({ cls := "LawfulLotsModel", name := "value", desc := "(II)I" } : Jvm.MethodName)) ∈ gt := List.mem_filter.mpr ⟨in_6 (List.mem_of_getElem? (i := 119) rfl), rfl⟩
set_option maxRecDepth 10000 in
theorem lk_1320 : (Jvm.Cond.instanceMethod ({ cls := "LawfulLotsModel", name := "value", desc := "(II)I" } : Jvm.MethodName)) ∈ gt := List.mem_filter.mpr ⟨in_6 (List.mem_of_getElem? (i := 120) rfl), rfl⟩
set_option maxRecDepth 10000 in
theorem lk_1321 : (Jvm.Cond.selects "LawfulLotsModel" ({ cls := "LawfulLotsModel", name := "value", desc := "(II)I" } : Jvm.MethodName) ({ cls := "LawfulLotsModel", name := "value", desc := "(II)I" } : Jvm.MethodName)) ∈ gt := List.mem_filter.mpr ⟨in_6 (List.mem_of_getElem? (i := 121) rfl), rfl⟩
set_option maxRecDepth 10000 in
theorem lk_1322 : (Jvm.Cond.code ({ cls := "LawfulLotsModel", name := "value", desc := "(II)I" } : Jvm.MethodName) prog_11_method_48_code (3 : Nat) (Option.some Jvm.ClassFile.FieldType.int)) ∈ gt := List.mem_filter.mpr ⟨in_6 (List.mem_of_getElem? (i := 122) rfl), rfl⟩
set_option maxRecDepth 10000 in
theorem lk_1323 : (Jvm.Cond.methodLink "LawfulLotsModel" (338 : Nat) ({ cls := "LawfulLotsModel", name := "isNumber", desc := "(I)Z" } : Jvm.MethodName)) ∈ gt := List.mem_filter.mpr ⟨in_6 (List.mem_of_getElem? (i := 123) rfl), rfl⟩
set_option maxRecDepth 10000 in
theorem lk_1325 : (Jvm.Cond.instanceMethod ({ cls := "LawfulLotsModel", name := "isNumber", desc := "(I)Z" } : Jvm.MethodName)) ∈ gt := List.mem_filter.mpr ⟨in_6 (List.mem_of_getElem? (i := 125) rfl), rfl⟩
set_option maxRecDepth 10000 in
theorem lk_1326 : (Jvm.Cond.code ({ cls := "LawfulLotsModel", name := "isNumber", desc := "(I)Z" } : Jvm.MethodName) prog_11_method_45_code (2 : Nat) (Option.some Jvm.ClassFile.FieldType.boolean)) ∈ gt := List.mem_filter.mpr ⟨in_6 (List.mem_of_getElem? (i := 126) rfl), rfl⟩
set_option maxRecDepth 10000 in
theorem lk_1327 : (Jvm.Cond.methodLink "LawfulLotsModel" (341 : Nat) ({ cls := "LawfulLotsModel", name := "isField", desc := "(I)Z" } : Jvm.MethodName)) ∈ gt := List.mem_filter.mpr ⟨in_6 (List.mem_of_getElem? (i := 127) rfl), rfl⟩
set_option maxRecDepth 10000 in
theorem lk_1329 : (Jvm.Cond.instanceMethod ({ cls := "LawfulLotsModel", name := "isField", desc := "(I)Z" } : Jvm.MethodName)) ∈ gt := List.mem_filter.mpr ⟨in_6 (List.mem_of_getElem? (i := 129) rfl), rfl⟩
set_option maxRecDepth 10000 in
theorem lk_1330 : (Jvm.Cond.code ({ cls := "LawfulLotsModel", name := "isField", desc := "(I)Z" } : Jvm.MethodName) prog_11_method_46_code (2 : Nat) (Option.some Jvm.ClassFile.FieldType.boolean)) ∈ gt := List.mem_filter.mpr ⟨in_6 (List.mem_of_getElem? (i := 130) rfl), rfl⟩
set_option maxRecDepth 10000 in
theorem lk_1331 : (Jvm.Cond.methodLink "LawfulLotsLaw" (53 : Nat) ({ cls := "LawfulLotsModel", name := "share", desc := "(I)I" } : Jvm.MethodName)) ∈ gt := List.mem_filter.mpr ⟨in_6 (List.mem_of_getElem? (i := 131) rfl), rfl⟩
set_option maxRecDepth 10000 in
theorem lk_1332 : (Jvm.Cond.instanceMethod ({ cls := "LawfulLotsModel", name := "share", desc := "(I)I" } : Jvm.MethodName)) ∈ gt := List.mem_filter.mpr ⟨in_6 (List.mem_of_getElem? (i := 132) rfl), rfl⟩
set_option maxRecDepth 10000 in
theorem lk_1333 : (Jvm.Cond.selects "LawfulLotsModel" ({ cls := "LawfulLotsModel", name := "share", desc := "(I)I" } : Jvm.MethodName) ({ cls := "LawfulLotsModel", name := "share", desc := "(I)I" } : Jvm.MethodName)) ∈ gt := List.mem_filter.mpr ⟨in_6 (List.mem_of_getElem? (i := 133) rfl), rfl⟩
set_option maxRecDepth 10000 in
theorem lk_1334 : (Jvm.Cond.code ({ cls := "LawfulLotsModel", name := "share", desc := "(I)I" } : Jvm.MethodName) prog_11_method_49_code (2 : Nat) (Option.some Jvm.ClassFile.FieldType.int)) ∈ gt := List.mem_filter.mpr ⟨in_6 (List.mem_of_getElem? (i := 134) rfl), rfl⟩
set_option maxRecDepth 10000 in
theorem lk_1335 : (Jvm.Cond.methodLink "LawfulLotsLaw" (57 : Nat) ({ cls := "LawfulLotsModel", name := "sum", desc := "()I" } : Jvm.MethodName)) ∈ gt := List.mem_filter.mpr ⟨in_6 (List.mem_of_getElem? (i := 135) rfl), rfl⟩
set_option maxRecDepth 10000 in
theorem lk_1336 : (Jvm.Cond.instanceMethod ({ cls := "LawfulLotsModel", name := "sum", desc := "()I" } : Jvm.MethodName)) ∈ gt := List.mem_filter.mpr ⟨in_6 (List.mem_of_getElem? (i := 136) rfl), rfl⟩
set_option maxRecDepth 10000 in
theorem lk_1337 : (Jvm.Cond.selects "LawfulLotsModel" ({ cls := "LawfulLotsModel", name := "sum", desc := "()I" } : Jvm.MethodName) ({ cls := "LawfulLotsModel", name := "sum", desc := "()I" } : Jvm.MethodName)) ∈ gt := List.mem_filter.mpr ⟨in_6 (List.mem_of_getElem? (i := 137) rfl), rfl⟩
set_option maxRecDepth 10000 in
theorem lk_1338 : (Jvm.Cond.code ({ cls := "LawfulLotsModel", name := "sum", desc := "()I" } : Jvm.MethodName) prog_11_method_50_code (1 : Nat) (Option.some Jvm.ClassFile.FieldType.int)) ∈ gt := List.mem_filter.mpr ⟨in_6 (List.mem_of_getElem? (i := 138) rfl), rfl⟩
set_option maxRecDepth 10000 in
theorem lk_1339 : (Jvm.Cond.methodLink "LawfulLotsLaw" (61 : Nat) ({ cls := "LawfulLotsModel", name := "pick", desc := "(I)I" } : Jvm.MethodName)) ∈ gt := List.mem_filter.mpr ⟨in_6 (List.mem_of_getElem? (i := 139) rfl), rfl⟩
set_option maxRecDepth 10000 in
theorem lk_1340 : (Jvm.Cond.instanceMethod ({ cls := "LawfulLotsModel", name := "pick", desc := "(I)I" } : Jvm.MethodName)) ∈ gt := List.mem_filter.mpr ⟨in_6 (List.mem_of_getElem? (i := 140) rfl), rfl⟩
set_option maxRecDepth 10000 in
theorem lk_1341 : (Jvm.Cond.selects "LawfulLotsModel" ({ cls := "LawfulLotsModel", name := "pick", desc := "(I)I" } : Jvm.MethodName) ({ cls := "LawfulLotsModel", name := "pick", desc := "(I)I" } : Jvm.MethodName)) ∈ gt := List.mem_filter.mpr ⟨in_6 (List.mem_of_getElem? (i := 141) rfl), rfl⟩
set_option maxRecDepth 10000 in
theorem lk_1342 : (Jvm.Cond.code ({ cls := "LawfulLotsModel", name := "pick", desc := "(I)I" } : Jvm.MethodName) prog_11_method_52_code (2 : Nat) (Option.some Jvm.ClassFile.FieldType.int)) ∈ gt := List.mem_filter.mpr ⟨in_6 (List.mem_of_getElem? (i := 142) rfl), rfl⟩
set_option maxRecDepth 10000 in
theorem lk_1343 : (Jvm.Cond.methodLink "LawfulLotsModel" (344 : Nat) ({ cls := "LawfulLotsModel", name := "picked", desc := "(I)I" } : Jvm.MethodName)) ∈ gt := List.mem_filter.mpr ⟨in_6 (List.mem_of_getElem? (i := 143) rfl), rfl⟩
set_option maxRecDepth 10000 in
theorem lk_1345 : (Jvm.Cond.instanceMethod ({ cls := "LawfulLotsModel", name := "picked", desc := "(I)I" } : Jvm.MethodName)) ∈ gt := List.mem_filter.mpr ⟨in_6 (List.mem_of_getElem? (i := 145) rfl), rfl⟩
set_option maxRecDepth 10000 in
theorem lk_1346 : (Jvm.Cond.code ({ cls := "LawfulLotsModel", name := "picked", desc := "(I)I" } : Jvm.MethodName) prog_11_method_51_code (4 : Nat) (Option.some Jvm.ClassFile.FieldType.int)) ∈ gt := List.mem_filter.mpr ⟨in_6 (List.mem_of_getElem? (i := 146) rfl), rfl⟩
set_option maxRecDepth 10000 in
theorem lk_1347 : (Jvm.Cond.methodLink "LawfulLotsLaw" (68 : Nat) ({ cls := "LawfulLotsModel", name := "draw", desc := "(JI)I" } : Jvm.MethodName)) ∈ gt := List.mem_filter.mpr ⟨in_6 (List.mem_of_getElem? (i := 147) rfl), rfl⟩
set_option maxRecDepth 10000 in
theorem lk_1348 : (Jvm.Cond.instanceMethod ({ cls := "LawfulLotsModel", name := "draw", desc := "(JI)I" } : Jvm.MethodName)) ∈ gt := List.mem_filter.mpr ⟨in_6 (List.mem_of_getElem? (i := 148) rfl), rfl⟩
set_option maxRecDepth 10000 in
theorem lk_1349 : (Jvm.Cond.selects "LawfulLotsModel" ({ cls := "LawfulLotsModel", name := "draw", desc := "(JI)I" } : Jvm.MethodName) ({ cls := "LawfulLotsModel", name := "draw", desc := "(JI)I" } : Jvm.MethodName)) ∈ gt := List.mem_filter.mpr ⟨in_6 (List.mem_of_getElem? (i := 149) rfl), rfl⟩
set_option maxRecDepth 10000 in
theorem lk_1350 : (Jvm.Cond.code ({ cls := "LawfulLotsModel", name := "draw", desc := "(JI)I" } : Jvm.MethodName) prog_11_method_53_code (9 : Nat) (Option.some Jvm.ClassFile.FieldType.int)) ∈ gt := List.mem_filter.mpr ⟨in_6 (List.mem_of_getElem? (i := 150) rfl), rfl⟩
set_option maxRecDepth 10000 in
theorem lk_1351 : (Jvm.Cond.constantLong "LawfulLotsModel" (347 : Nat) (31 : Int64)) ∈ gt := List.mem_filter.mpr ⟨in_6 (List.mem_of_getElem? (i := 151) rfl), rfl⟩
set_option maxRecDepth 10000 in
theorem lk_1352 : (Jvm.Cond.constantLong "LawfulLotsModel" (349 : Nat) (2862933555777941757 : Int64)) ∈ gt := List.mem_filter.mpr ⟨in_6 (List.mem_of_getElem? (i := 152) rfl), rfl⟩
set_option maxRecDepth 10000 in
theorem lk_1353 : (Jvm.Cond.methodLink "LawfulLotsLaw" (108 : Nat) ({ cls := "LawfulLotsModel", name := "logged", desc := "(II)I" } : Jvm.MethodName)) ∈ gt := List.mem_filter.mpr ⟨in_6 (List.mem_of_getElem? (i := 153) rfl), rfl⟩
set_option maxRecDepth 10000 in
theorem lk_1354 : (Jvm.Cond.instanceMethod ({ cls := "LawfulLotsModel", name := "logged", desc := "(II)I" } : Jvm.MethodName)) ∈ gt := List.mem_filter.mpr ⟨in_6 (List.mem_of_getElem? (i := 154) rfl), rfl⟩
set_option maxRecDepth 10000 in
theorem lk_1355 : (Jvm.Cond.selects "LawfulLotsModel" ({ cls := "LawfulLotsModel", name := "logged", desc := "(II)I" } : Jvm.MethodName) ({ cls := "LawfulLotsModel", name := "logged", desc := "(II)I" } : Jvm.MethodName)) ∈ gt := List.mem_filter.mpr ⟨in_6 (List.mem_of_getElem? (i := 155) rfl), rfl⟩
set_option maxRecDepth 10000 in
theorem lk_1356 : (Jvm.Cond.code ({ cls := "LawfulLotsModel", name := "logged", desc := "(II)I" } : Jvm.MethodName) prog_11_method_54_code (3 : Nat) (Option.some Jvm.ClassFile.FieldType.int)) ∈ gt := List.mem_filter.mpr ⟨in_6 (List.mem_of_getElem? (i := 156) rfl), rfl⟩
set_option maxRecDepth 10000 in
theorem lk_1357 : (Jvm.Cond.methodLink "LawfulLotsLaw" (112 : Nat) ({ cls := "LawfulLotsModel", name := "fallen", desc := "(I)I" } : Jvm.MethodName)) ∈ gt := List.mem_filter.mpr ⟨in_6 (List.mem_of_getElem? (i := 157) rfl), rfl⟩
set_option maxRecDepth 10000 in
theorem lk_1358 : (Jvm.Cond.instanceMethod ({ cls := "LawfulLotsModel", name := "fallen", desc := "(I)I" } : Jvm.MethodName)) ∈ gt := List.mem_filter.mpr ⟨in_6 (List.mem_of_getElem? (i := 158) rfl), rfl⟩
set_option maxRecDepth 10000 in
theorem lk_1359 : (Jvm.Cond.selects "LawfulLotsModel" ({ cls := "LawfulLotsModel", name := "fallen", desc := "(I)I" } : Jvm.MethodName) ({ cls := "LawfulLotsModel", name := "fallen", desc := "(I)I" } : Jvm.MethodName)) ∈ gt := List.mem_filter.mpr ⟨in_6 (List.mem_of_getElem? (i := 159) rfl), rfl⟩
set_option maxRecDepth 10000 in
theorem lk_1360 : (Jvm.Cond.code ({ cls := "LawfulLotsModel", name := "fallen", desc := "(I)I" } : Jvm.MethodName) prog_11_method_55_code (4 : Nat) (Option.some Jvm.ClassFile.FieldType.int)) ∈ gt := List.mem_filter.mpr ⟨in_6 (List.mem_of_getElem? (i := 160) rfl), rfl⟩
set_option maxRecDepth 10000 in
theorem lk_1361 : (Jvm.Cond.methodLink "LawfulLotsLaw" (72 : Nat) ({ cls := "LawfulLotsModel", name := "quarrel", desc := "()I" } : Jvm.MethodName)) ∈ gt := List.mem_filter.mpr ⟨in_6 (List.mem_of_getElem? (i := 161) rfl), rfl⟩
set_option maxRecDepth 10000 in
theorem lk_1362 : (Jvm.Cond.instanceMethod ({ cls := "LawfulLotsModel", name := "quarrel", desc := "()I" } : Jvm.MethodName)) ∈ gt := List.mem_filter.mpr ⟨in_6 (List.mem_of_getElem? (i := 162) rfl), rfl⟩
set_option maxRecDepth 10000 in
theorem lk_1363 : (Jvm.Cond.selects "LawfulLotsModel" ({ cls := "LawfulLotsModel", name := "quarrel", desc := "()I" } : Jvm.MethodName) ({ cls := "LawfulLotsModel", name := "quarrel", desc := "()I" } : Jvm.MethodName)) ∈ gt := List.mem_filter.mpr ⟨in_6 (List.mem_of_getElem? (i := 163) rfl), rfl⟩
set_option maxRecDepth 10000 in
theorem lk_1364 : (Jvm.Cond.code ({ cls := "LawfulLotsModel", name := "quarrel", desc := "()I" } : Jvm.MethodName) prog_11_method_57_code (6 : Nat) (Option.some Jvm.ClassFile.FieldType.int)) ∈ gt := List.mem_filter.mpr ⟨in_6 (List.mem_of_getElem? (i := 164) rfl), rfl⟩
set_option maxRecDepth 10000 in
theorem lk_1365 : (Jvm.Cond.methodLink "LawfulLotsModel" (351 : Nat) ({ cls := "LawfulLotsModel", name := "bits", desc := "(I)I" } : Jvm.MethodName)) ∈ gt := List.mem_filter.mpr ⟨in_6 (List.mem_of_getElem? (i := 165) rfl), rfl⟩
set_option maxRecDepth 10000 in
theorem lk_1366 : (Jvm.Cond.static ({ cls := "LawfulLotsModel", name := "bits", desc := "(I)I" } : Jvm.MethodName)) ∈ gt := List.mem_filter.mpr ⟨in_6 (List.mem_of_getElem? (i := 166) rfl), rfl⟩
set_option maxRecDepth 10000 in
theorem lk_1367 : (Jvm.Cond.code ({ cls := "LawfulLotsModel", name := "bits", desc := "(I)I" } : Jvm.MethodName) prog_11_method_56_code (3 : Nat) (Option.some Jvm.ClassFile.FieldType.int)) ∈ gt := List.mem_filter.mpr ⟨in_6 (List.mem_of_getElem? (i := 167) rfl), rfl⟩
set_option maxRecDepth 10000 in
theorem lk_1368 : (Jvm.Cond.methodLink "LawfulLotsLaw" (76 : Nat) ({ cls := "LawfulLotsModel", name := "alone", desc := "(I)I" } : Jvm.MethodName)) ∈ gt := List.mem_filter.mpr ⟨in_6 (List.mem_of_getElem? (i := 168) rfl), rfl⟩
set_option maxRecDepth 10000 in
theorem lk_1369 : (Jvm.Cond.instanceMethod ({ cls := "LawfulLotsModel", name := "alone", desc := "(I)I" } : Jvm.MethodName)) ∈ gt := List.mem_filter.mpr ⟨in_6 (List.mem_of_getElem? (i := 169) rfl), rfl⟩
set_option maxRecDepth 10000 in
theorem lk_1370 : (Jvm.Cond.selects "LawfulLotsModel" ({ cls := "LawfulLotsModel", name := "alone", desc := "(I)I" } : Jvm.MethodName) ({ cls := "LawfulLotsModel", name := "alone", desc := "(I)I" } : Jvm.MethodName)) ∈ gt := List.mem_filter.mpr ⟨in_6 (List.mem_of_getElem? (i := 170) rfl), rfl⟩
set_option maxRecDepth 10000 in
theorem lk_1371 : (Jvm.Cond.code ({ cls := "LawfulLotsModel", name := "alone", desc := "(I)I" } : Jvm.MethodName) prog_11_method_58_code (5 : Nat) (Option.some Jvm.ClassFile.FieldType.int)) ∈ gt := List.mem_filter.mpr ⟨in_6 (List.mem_of_getElem? (i := 171) rfl), rfl⟩
set_option maxRecDepth 10000 in
theorem lk_1372 : (Jvm.Cond.methodLink "LawfulLotsLaw" (80 : Nat) ({ cls := "LawfulLotsModel", name := "meets", desc := "(I)I" } : Jvm.MethodName)) ∈ gt := List.mem_filter.mpr ⟨in_6 (List.mem_of_getElem? (i := 172) rfl), rfl⟩
set_option maxRecDepth 10000 in
theorem lk_1373 : (Jvm.Cond.instanceMethod ({ cls := "LawfulLotsModel", name := "meets", desc := "(I)I" } : Jvm.MethodName)) ∈ gt := List.mem_filter.mpr ⟨in_6 (List.mem_of_getElem? (i := 173) rfl), rfl⟩
set_option maxRecDepth 10000 in
theorem lk_1374 : (Jvm.Cond.selects "LawfulLotsModel" ({ cls := "LawfulLotsModel", name := "meets", desc := "(I)I" } : Jvm.MethodName) ({ cls := "LawfulLotsModel", name := "meets", desc := "(I)I" } : Jvm.MethodName)) ∈ gt := List.mem_filter.mpr ⟨in_6 (List.mem_of_getElem? (i := 174) rfl), rfl⟩
set_option maxRecDepth 10000 in
theorem lk_1375 : (Jvm.Cond.code ({ cls := "LawfulLotsModel", name := "meets", desc := "(I)I" } : Jvm.MethodName) prog_11_method_60_code (2 : Nat) (Option.some Jvm.ClassFile.FieldType.int)) ∈ gt := List.mem_filter.mpr ⟨in_6 (List.mem_of_getElem? (i := 175) rfl), rfl⟩
set_option maxRecDepth 10000 in
theorem lk_1376 : (Jvm.Cond.methodLink "LawfulLotsModel" (354 : Nat) ({ cls := "LawfulLotsModel", name := "isBin", desc := "(I)Z" } : Jvm.MethodName)) ∈ gt := List.mem_filter.mpr ⟨in_6 (List.mem_of_getElem? (i := 176) rfl), rfl⟩
set_option maxRecDepth 10000 in
theorem lk_1378 : (Jvm.Cond.instanceMethod ({ cls := "LawfulLotsModel", name := "isBin", desc := "(I)Z" } : Jvm.MethodName)) ∈ gt := List.mem_filter.mpr ⟨in_6 (List.mem_of_getElem? (i := 178) rfl), rfl⟩
set_option maxRecDepth 10000 in
theorem lk_1379 : (Jvm.Cond.code ({ cls := "LawfulLotsModel", name := "isBin", desc := "(I)Z" } : Jvm.MethodName) prog_11_method_47_code (2 : Nat) (Option.some Jvm.ClassFile.FieldType.boolean)) ∈ gt := List.mem_filter.mpr ⟨in_6 (List.mem_of_getElem? (i := 179) rfl), rfl⟩
set_option maxRecDepth 10000 in
theorem lk_1380 : (Jvm.Cond.methodLink "LawfulLotsModel" (357 : Nat) ({ cls := "LawfulLotsModel", name := "meeting", desc := "(I)I" } : Jvm.MethodName)) ∈ gt := List.mem_filter.mpr ⟨in_6 (List.mem_of_getElem? (i := 180) rfl), rfl⟩
set_option maxRecDepth 10000 in
theorem lk_1382 : (Jvm.Cond.instanceMethod ({ cls := "LawfulLotsModel", name := "meeting", desc := "(I)I" } : Jvm.MethodName)) ∈ gt := List.mem_filter.mpr ⟨in_6 (List.mem_of_getElem? (i := 182) rfl), rfl⟩
set_option maxRecDepth 10000 in
theorem lk_1383 : (Jvm.Cond.code ({ cls := "LawfulLotsModel", name := "meeting", desc := "(I)I" } : Jvm.MethodName) prog_11_method_59_code (4 : Nat) (Option.some Jvm.ClassFile.FieldType.int)) ∈ gt := List.mem_filter.mpr ⟨in_6 (List.mem_of_getElem? (i := 183) rfl), rfl⟩
set_option maxRecDepth 10000 in
theorem lk_1384 : (Jvm.Cond.methodLink "LawfulLotsLaw" (84 : Nat) ({ cls := "LawfulLotsModel", name := "cross", desc := "(II)I" } : Jvm.MethodName)) ∈ gt := List.mem_filter.mpr ⟨in_6 (List.mem_of_getElem? (i := 184) rfl), rfl⟩
set_option maxRecDepth 10000 in
theorem lk_1385 : (Jvm.Cond.instanceMethod ({ cls := "LawfulLotsModel", name := "cross", desc := "(II)I" } : Jvm.MethodName)) ∈ gt := List.mem_filter.mpr ⟨in_6 (List.mem_of_getElem? (i := 185) rfl), rfl⟩
set_option maxRecDepth 10000 in
theorem lk_1386 : (Jvm.Cond.selects "LawfulLotsModel" ({ cls := "LawfulLotsModel", name := "cross", desc := "(II)I" } : Jvm.MethodName) ({ cls := "LawfulLotsModel", name := "cross", desc := "(II)I" } : Jvm.MethodName)) ∈ gt := List.mem_filter.mpr ⟨in_6 (List.mem_of_getElem? (i := 186) rfl), rfl⟩
set_option maxRecDepth 10000 in
theorem lk_1387 : (Jvm.Cond.code ({ cls := "LawfulLotsModel", name := "cross", desc := "(II)I" } : Jvm.MethodName) prog_11_method_61_code (3 : Nat) (Option.some Jvm.ClassFile.FieldType.int)) ∈ gt := List.mem_filter.mpr ⟨in_6 (List.mem_of_getElem? (i := 187) rfl), rfl⟩
set_option maxRecDepth 10000 in
theorem lk_1388 : (Jvm.Cond.methodLink "LawfulLotsLaw" (88 : Nat) ({ cls := "LawfulLotsModel", name := "hits", desc := "(I)I" } : Jvm.MethodName)) ∈ gt := List.mem_filter.mpr ⟨in_6 (List.mem_of_getElem? (i := 188) rfl), rfl⟩
set_option maxRecDepth 10000 in
theorem lk_1389 : (Jvm.Cond.instanceMethod ({ cls := "LawfulLotsModel", name := "hits", desc := "(I)I" } : Jvm.MethodName)) ∈ gt := List.mem_filter.mpr ⟨in_6 (List.mem_of_getElem? (i := 189) rfl), rfl⟩
set_option maxRecDepth 10000 in
theorem lk_1390 : (Jvm.Cond.selects "LawfulLotsModel" ({ cls := "LawfulLotsModel", name := "hits", desc := "(I)I" } : Jvm.MethodName) ({ cls := "LawfulLotsModel", name := "hits", desc := "(I)I" } : Jvm.MethodName)) ∈ gt := List.mem_filter.mpr ⟨in_6 (List.mem_of_getElem? (i := 190) rfl), rfl⟩
set_option maxRecDepth 10000 in
theorem lk_1391 : (Jvm.Cond.code ({ cls := "LawfulLotsModel", name := "hits", desc := "(I)I" } : Jvm.MethodName) prog_11_method_63_code (2 : Nat) (Option.some Jvm.ClassFile.FieldType.int)) ∈ gt := List.mem_filter.mpr ⟨in_6 (List.mem_of_getElem? (i := 191) rfl), rfl⟩
set_option maxRecDepth 10000 in
theorem lk_1392 : (Jvm.Cond.methodLink "LawfulLotsModel" (360 : Nat) ({ cls := "LawfulLotsModel", name := "hitsOf", desc := "(I)I" } : Jvm.MethodName)) ∈ gt := List.mem_filter.mpr ⟨in_6 (List.mem_of_getElem? (i := 192) rfl), rfl⟩
set_option maxRecDepth 10000 in
theorem lk_1394 : (Jvm.Cond.instanceMethod ({ cls := "LawfulLotsModel", name := "hitsOf", desc := "(I)I" } : Jvm.MethodName)) ∈ gt := List.mem_filter.mpr ⟨in_6 (List.mem_of_getElem? (i := 194) rfl), rfl⟩
set_option maxRecDepth 10000 in
theorem lk_1395 : (Jvm.Cond.code ({ cls := "LawfulLotsModel", name := "hitsOf", desc := "(I)I" } : Jvm.MethodName) prog_11_method_62_code (4 : Nat) (Option.some Jvm.ClassFile.FieldType.int)) ∈ gt := List.mem_filter.mpr ⟨in_6 (List.mem_of_getElem? (i := 195) rfl), rfl⟩
set_option maxRecDepth 10000 in
theorem lk_1396 : (Jvm.Cond.methodLink "LawfulLotsLaw" (92 : Nat) ({ cls := "LawfulLotsModel", name := "fill", desc := "()I" } : Jvm.MethodName)) ∈ gt := List.mem_filter.mpr ⟨in_6 (List.mem_of_getElem? (i := 196) rfl), rfl⟩
set_option maxRecDepth 10000 in
theorem lk_1397 : (Jvm.Cond.instanceMethod ({ cls := "LawfulLotsModel", name := "fill", desc := "()I" } : Jvm.MethodName)) ∈ gt := List.mem_filter.mpr ⟨in_6 (List.mem_of_getElem? (i := 197) rfl), rfl⟩
set_option maxRecDepth 10000 in
theorem lk_1398 : (Jvm.Cond.selects "LawfulLotsModel" ({ cls := "LawfulLotsModel", name := "fill", desc := "()I" } : Jvm.MethodName) ({ cls := "LawfulLotsModel", name := "fill", desc := "()I" } : Jvm.MethodName)) ∈ gt := List.mem_filter.mpr ⟨in_6 (List.mem_of_getElem? (i := 198) rfl), rfl⟩
set_option maxRecDepth 10000 in
theorem lk_1399 : (Jvm.Cond.code ({ cls := "LawfulLotsModel", name := "fill", desc := "()I" } : Jvm.MethodName) prog_11_method_67_code (1 : Nat) (Option.some Jvm.ClassFile.FieldType.int)) ∈ gt := List.mem_filter.mpr ⟨in_6 (List.mem_of_getElem? (i := 199) rfl), rfl⟩
set_option maxRecDepth 10000 in
theorem lk_1400 : (Jvm.Cond.methodLink "LawfulLotsModel" (369 : Nat) ({ cls := "LawfulLotsModel", name := "wants", desc := "()V" } : Jvm.MethodName)) ∈ gt := List.mem_filter.mpr ⟨in_6 (List.mem_of_getElem? (i := 200) rfl), rfl⟩
set_option maxRecDepth 10000 in
theorem lk_1402 : (Jvm.Cond.instanceMethod ({ cls := "LawfulLotsModel", name := "wants", desc := "()V" } : Jvm.MethodName)) ∈ gt := List.mem_filter.mpr ⟨in_6 (List.mem_of_getElem? (i := 202) rfl), rfl⟩
set_option maxRecDepth 10000 in
theorem lk_1403 : (Jvm.Cond.code ({ cls := "LawfulLotsModel", name := "wants", desc := "()V" } : Jvm.MethodName) prog_11_method_65_code (3 : Nat) (Option.none : Option Jvm.ClassFile.FieldType)) ∈ gt := List.mem_filter.mpr ⟨in_6 (List.mem_of_getElem? (i := 203) rfl), rfl⟩
set_option maxRecDepth 10000 in
theorem lk_1404 : (Jvm.Cond.methodLink "LawfulLotsModel" (363 : Nat) ({ cls := "LawfulLotsModel", name := "without", desc := "()I" } : Jvm.MethodName)) ∈ gt := List.mem_filter.mpr ⟨in_6 (List.mem_of_getElem? (i := 204) rfl), rfl⟩
set_option maxRecDepth 10000 in
theorem lk_1406 : (Jvm.Cond.instanceMethod ({ cls := "LawfulLotsModel", name := "without", desc := "()I" } : Jvm.MethodName)) ∈ gt := List.mem_filter.mpr ⟨in_6 (List.mem_of_getElem? (i := 206) rfl), rfl⟩
set_option maxRecDepth 10000 in
theorem lk_1407 : (Jvm.Cond.code ({ cls := "LawfulLotsModel", name := "without", desc := "()I" } : Jvm.MethodName) prog_11_method_64_code (3 : Nat) (Option.some Jvm.ClassFile.FieldType.int)) ∈ gt := List.mem_filter.mpr ⟨in_6 (List.mem_of_getElem? (i := 207) rfl), rfl⟩
set_option maxRecDepth 10000 in
theorem lk_1408 : (Jvm.Cond.methodLink "LawfulLotsModel" (372 : Nat) ({ cls := "LawfulLotsModel", name := "need", desc := "(II)I" } : Jvm.MethodName)) ∈ gt := List.mem_filter.mpr ⟨in_6 (List.mem_of_getElem? (i := 208) rfl), rfl⟩
set_option maxRecDepth 10000 in
theorem lk_1410 : (Jvm.Cond.instanceMethod ({ cls := "LawfulLotsModel", name := "need", desc := "(II)I" } : Jvm.MethodName)) ∈ gt := List.mem_filter.mpr ⟨in_6 (List.mem_of_getElem? (i := 210) rfl), rfl⟩
set_option maxRecDepth 10000 in
theorem lk_1411 : (Jvm.Cond.code ({ cls := "LawfulLotsModel", name := "need", desc := "(II)I" } : Jvm.MethodName) prog_11_method_66_code (5 : Nat) (Option.some Jvm.ClassFile.FieldType.int)) ∈ gt := List.mem_filter.mpr ⟨in_6 (List.mem_of_getElem? (i := 211) rfl), rfl⟩
set_option maxRecDepth 10000 in
theorem lk_1412 : (Jvm.Cond.methodLink "LawfulLotsLaw" (96 : Nat) ({ cls := "LawfulLotsModel", name := "fills", desc := "(I)I" } : Jvm.MethodName)) ∈ gt := List.mem_filter.mpr ⟨in_6 (List.mem_of_getElem? (i := 212) rfl), rfl⟩
set_option maxRecDepth 10000 in
theorem lk_1413 : (Jvm.Cond.instanceMethod ({ cls := "LawfulLotsModel", name := "fills", desc := "(I)I" } : Jvm.MethodName)) ∈ gt := List.mem_filter.mpr ⟨in_6 (List.mem_of_getElem? (i := 213) rfl), rfl⟩
set_option maxRecDepth 10000 in
theorem lk_1414 : (Jvm.Cond.selects "LawfulLotsModel" ({ cls := "LawfulLotsModel", name := "fills", desc := "(I)I" } : Jvm.MethodName) ({ cls := "LawfulLotsModel", name := "fills", desc := "(I)I" } : Jvm.MethodName)) ∈ gt := List.mem_filter.mpr ⟨in_6 (List.mem_of_getElem? (i := 214) rfl), rfl⟩
set_option maxRecDepth 10000 in
theorem lk_1415 : (Jvm.Cond.code ({ cls := "LawfulLotsModel", name := "fills", desc := "(I)I" } : Jvm.MethodName) prog_11_method_68_code (8 : Nat) (Option.some Jvm.ClassFile.FieldType.int)) ∈ gt := List.mem_filter.mpr ⟨in_6 (List.mem_of_getElem? (i := 215) rfl), rfl⟩
set_option maxRecDepth 10000 in
theorem lk_1416 : (Jvm.Cond.methodLink "LawfulLotsLaw" (100 : Nat) ({ cls := "LawfulLotsModel", name := "best", desc := "()I" } : Jvm.MethodName)) ∈ gt := List.mem_filter.mpr ⟨in_6 (List.mem_of_getElem? (i := 216) rfl), rfl⟩
set_option maxRecDepth 10000 in
theorem lk_1417 : (Jvm.Cond.instanceMethod ({ cls := "LawfulLotsModel", name := "best", desc := "()I" } : Jvm.MethodName)) ∈ gt := List.mem_filter.mpr ⟨in_6 (List.mem_of_getElem? (i := 217) rfl), rfl⟩
set_option maxRecDepth 10000 in
theorem lk_1418 : (Jvm.Cond.selects "LawfulLotsModel" ({ cls := "LawfulLotsModel", name := "best", desc := "()I" } : Jvm.MethodName) ({ cls := "LawfulLotsModel", name := "best", desc := "()I" } : Jvm.MethodName)) ∈ gt := List.mem_filter.mpr ⟨in_6 (List.mem_of_getElem? (i := 218) rfl), rfl⟩
set_option maxRecDepth 10000 in
theorem lk_1419 : (Jvm.Cond.code ({ cls := "LawfulLotsModel", name := "best", desc := "()I" } : Jvm.MethodName) prog_11_method_69_code (6 : Nat) (Option.some Jvm.ClassFile.FieldType.int)) ∈ gt := List.mem_filter.mpr ⟨in_6 (List.mem_of_getElem? (i := 219) rfl), rfl⟩
set_option maxRecDepth 10000 in
theorem lk_1420 : (Jvm.Cond.methodLink "LawfulLotsLaw" (104 : Nat) ({ cls := "LawfulLotsModel", name := "least", desc := "(I)I" } : Jvm.MethodName)) ∈ gt := List.mem_filter.mpr ⟨in_6 (List.mem_of_getElem? (i := 220) rfl), rfl⟩
set_option maxRecDepth 10000 in
theorem lk_1421 : (Jvm.Cond.instanceMethod ({ cls := "LawfulLotsModel", name := "least", desc := "(I)I" } : Jvm.MethodName)) ∈ gt := List.mem_filter.mpr ⟨in_6 (List.mem_of_getElem? (i := 221) rfl), rfl⟩
set_option maxRecDepth 10000 in
theorem lk_1422 : (Jvm.Cond.selects "LawfulLotsModel" ({ cls := "LawfulLotsModel", name := "least", desc := "(I)I" } : Jvm.MethodName) ({ cls := "LawfulLotsModel", name := "least", desc := "(I)I" } : Jvm.MethodName)) ∈ gt := List.mem_filter.mpr ⟨in_6 (List.mem_of_getElem? (i := 222) rfl), rfl⟩
set_option maxRecDepth 10000 in
theorem lk_1423 : (Jvm.Cond.code ({ cls := "LawfulLotsModel", name := "least", desc := "(I)I" } : Jvm.MethodName) prog_11_method_70_code (7 : Nat) (Option.some Jvm.ClassFile.FieldType.int)) ∈ gt := List.mem_filter.mpr ⟨in_6 (List.mem_of_getElem? (i := 223) rfl), rfl⟩
set_option maxRecDepth 10000 in
theorem lk_1424 : (Jvm.Cond.methodLink "LawfulLotsLaw" (117 : Nat) ({ cls := "LawfulLotsModel", name := "rows", desc := "(I)J" } : Jvm.MethodName)) ∈ gt := List.mem_filter.mpr ⟨in_6 (List.mem_of_getElem? (i := 224) rfl), rfl⟩
set_option maxRecDepth 10000 in
theorem lk_1425 : (Jvm.Cond.instanceMethod ({ cls := "LawfulLotsModel", name := "rows", desc := "(I)J" } : Jvm.MethodName)) ∈ gt := List.mem_filter.mpr ⟨in_6 (List.mem_of_getElem? (i := 225) rfl), rfl⟩
set_option maxRecDepth 10000 in
theorem lk_1426 : (Jvm.Cond.selects "LawfulLotsModel" ({ cls := "LawfulLotsModel", name := "rows", desc := "(I)J" } : Jvm.MethodName) ({ cls := "LawfulLotsModel", name := "rows", desc := "(I)J" } : Jvm.MethodName)) ∈ gt := List.mem_filter.mpr ⟨in_6 (List.mem_of_getElem? (i := 226) rfl), rfl⟩
set_option maxRecDepth 10000 in
theorem lk_1427 : (Jvm.Cond.code ({ cls := "LawfulLotsModel", name := "rows", desc := "(I)J" } : Jvm.MethodName) prog_11_method_72_code (5 : Nat) (Option.some Jvm.ClassFile.FieldType.long)) ∈ gt := List.mem_filter.mpr ⟨in_6 (List.mem_of_getElem? (i := 227) rfl), rfl⟩
set_option maxRecDepth 10000 in
theorem lk_1428 : (Jvm.Cond.methodLink "LawfulLotsModel" (375 : Nat) ({ cls := "LawfulLotsModel", name := "counts", desc := "(I)Z" } : Jvm.MethodName)) ∈ gt := List.mem_filter.mpr ⟨in_6 (List.mem_of_getElem? (i := 228) rfl), rfl⟩
set_option maxRecDepth 10000 in
theorem lk_1430 : (Jvm.Cond.instanceMethod ({ cls := "LawfulLotsModel", name := "counts", desc := "(I)Z" } : Jvm.MethodName)) ∈ gt := List.mem_filter.mpr ⟨in_6 (List.mem_of_getElem? (i := 230) rfl), rfl⟩
set_option maxRecDepth 10000 in
theorem lk_1431 : (Jvm.Cond.code ({ cls := "LawfulLotsModel", name := "counts", desc := "(I)Z" } : Jvm.MethodName) prog_11_method_71_code (7 : Nat) (Option.some Jvm.ClassFile.FieldType.boolean)) ∈ gt := List.mem_filter.mpr ⟨in_6 (List.mem_of_getElem? (i := 231) rfl), rfl⟩
set_option maxRecDepth 10000 in
theorem lk_1432 : (Jvm.Cond.constantLong "LawfulLotsModel" (378 : Nat) (-1 : Int64)) ∈ gt := List.mem_filter.mpr ⟨in_6 (List.mem_of_getElem? (i := 232) rfl), rfl⟩
set_option maxRecDepth 10000 in
theorem lk_1433 : (Jvm.Cond.methodLink "LawfulLotsLaw" (122 : Nat) ({ cls := "LawfulLotsModel", name := "row", desc := "(IJI)I" } : Jvm.MethodName)) ∈ gt := List.mem_filter.mpr ⟨in_6 (List.mem_of_getElem? (i := 233) rfl), rfl⟩
set_option maxRecDepth 10000 in
theorem lk_1434 : (Jvm.Cond.instanceMethod ({ cls := "LawfulLotsModel", name := "row", desc := "(IJI)I" } : Jvm.MethodName)) ∈ gt := List.mem_filter.mpr ⟨in_6 (List.mem_of_getElem? (i := 234) rfl), rfl⟩
set_option maxRecDepth 10000 in
theorem lk_1435 : (Jvm.Cond.selects "LawfulLotsModel" ({ cls := "LawfulLotsModel", name := "row", desc := "(IJI)I" } : Jvm.MethodName) ({ cls := "LawfulLotsModel", name := "row", desc := "(IJI)I" } : Jvm.MethodName)) ∈ gt := List.mem_filter.mpr ⟨in_6 (List.mem_of_getElem? (i := 235) rfl), rfl⟩
set_option maxRecDepth 10000 in
theorem lk_1436 : (Jvm.Cond.code ({ cls := "LawfulLotsModel", name := "row", desc := "(IJI)I" } : Jvm.MethodName) prog_11_method_73_code (11 : Nat) (Option.some Jvm.ClassFile.FieldType.int)) ∈ gt := List.mem_filter.mpr ⟨in_6 (List.mem_of_getElem? (i := 236) rfl), rfl⟩
set_option maxRecDepth 10000 in
theorem lk_1437 : (Jvm.Cond.methodLink "LawfulLotsLaw" (126 : Nat) ({ cls := "LawfulLotsModel", name := "count", desc := "(I)I" } : Jvm.MethodName)) ∈ gt := List.mem_filter.mpr ⟨in_6 (List.mem_of_getElem? (i := 237) rfl), rfl⟩
set_option maxRecDepth 10000 in
theorem lk_1438 : (Jvm.Cond.instanceMethod ({ cls := "LawfulLotsModel", name := "count", desc := "(I)I" } : Jvm.MethodName)) ∈ gt := List.mem_filter.mpr ⟨in_6 (List.mem_of_getElem? (i := 238) rfl), rfl⟩
set_option maxRecDepth 10000 in
theorem lk_1439 : (Jvm.Cond.selects "LawfulLotsModel" ({ cls := "LawfulLotsModel", name := "count", desc := "(I)I" } : Jvm.MethodName) ({ cls := "LawfulLotsModel", name := "count", desc := "(I)I" } : Jvm.MethodName)) ∈ gt := List.mem_filter.mpr ⟨in_6 (List.mem_of_getElem? (i := 239) rfl), rfl⟩
set_option maxRecDepth 10000 in
theorem lk_1440 : (Jvm.Cond.code ({ cls := "LawfulLotsModel", name := "count", desc := "(I)I" } : Jvm.MethodName) prog_11_method_74_code (2 : Nat) (Option.some Jvm.ClassFile.FieldType.int)) ∈ gt := List.mem_filter.mpr ⟨in_7 (List.mem_of_getElem? (i := 0) rfl), rfl⟩
set_option maxRecDepth 10000 in
theorem lk_1441 : (Jvm.Cond.constantLong "LawfulLotsLaw" (62 : Nat) (4294967295 : Int64)) ∈ gt := List.mem_filter.mpr ⟨in_7 (List.mem_of_getElem? (i := 1) rfl), rfl⟩
set_option maxRecDepth 10000 in
theorem ls_0 : (Cond.selects "LawfulLots" ⟨"LawfulLots", "append", "(I)V"⟩ ⟨"LawfulLots", "append", "(I)V"⟩) ∈ gt := List.mem_filter.mpr ⟨List.mem_append_left _ (List.mem_of_getElem? (i := 0) rfl), rfl⟩
set_option maxRecDepth 10000 in
theorem ls_1 : (Cond.selects "LawfulLots$Scanner" ⟨"LawfulLots$Scanner", "scanName", "()V"⟩ ⟨"LawfulLots$Scanner", "scanName", "()V"⟩) ∈ gt := List.mem_filter.mpr ⟨List.mem_append_left _ (List.mem_of_getElem? (i := 1) rfl), rfl⟩
set_option maxRecDepth 10000 in
theorem ls_2 : (Cond.selects "LawfulLots$Scanner" ⟨"LawfulLots$Scanner", "wordOrName", "()I"⟩ ⟨"LawfulLots$Scanner", "wordOrName", "()I"⟩) ∈ gt := List.mem_filter.mpr ⟨List.mem_append_left _ (List.mem_of_getElem? (i := 2) rfl), rfl⟩
set_option maxRecDepth 10000 in
theorem ls_3 : (Cond.selects "LawfulLots$Scanner" ⟨"LawfulLots$Scanner", "scanInt", "()V"⟩ ⟨"LawfulLots$Scanner", "scanInt", "()V"⟩) ∈ gt := List.mem_filter.mpr ⟨List.mem_append_left _ (List.mem_of_getElem? (i := 3) rfl), rfl⟩
set_option maxRecDepth 10000 in
theorem ls_4 : (Cond.selects "LawfulLots$Scanner" ⟨"LawfulLots$Scanner", "scanSign", "(I)V"⟩ ⟨"LawfulLots$Scanner", "scanSign", "(I)V"⟩) ∈ gt := List.mem_filter.mpr ⟨List.mem_append_left _ (List.mem_of_getElem? (i := 4) rfl), rfl⟩
set_option maxRecDepth 10000 in
theorem ls_5 : (Cond.selects "LawfulLots$Reader" ⟨"LawfulLots$Reader", "goOn", "(I)I"⟩ ⟨"LawfulLots$Reader", "goOn", "(I)I"⟩) ∈ gt := List.mem_filter.mpr ⟨List.mem_append_left _ (List.mem_of_getElem? (i := 5) rfl), rfl⟩
set_option maxRecDepth 10000 in
theorem ls_6 : (Cond.selects "LawfulLots$Reader" ⟨"LawfulLots$Reader", "beginTell", "(I)I"⟩ ⟨"LawfulLots$Reader", "beginTell", "(I)I"⟩) ∈ gt := List.mem_filter.mpr ⟨List.mem_append_left _ (List.mem_of_getElem? (i := 6) rfl), rfl⟩
set_option maxRecDepth 10000 in
theorem ls_7 : (Cond.selects "LawfulLots$Reader" ⟨"LawfulLots$Reader", "beginSort", "(II)I"⟩ ⟨"LawfulLots$Reader", "beginSort", "(II)I"⟩) ∈ gt := List.mem_filter.mpr ⟨List.mem_append_left _ (List.mem_of_getElem? (i := 7) rfl), rfl⟩
set_option maxRecDepth 10000 in
theorem ls_8 : (Cond.selects "LawfulLots$Reader" ⟨"LawfulLots$Reader", "endField", "()I"⟩ ⟨"LawfulLots$Reader", "endField", "()I"⟩) ∈ gt := List.mem_filter.mpr ⟨List.mem_append_left _ (List.mem_of_getElem? (i := 8) rfl), rfl⟩
set_option maxRecDepth 10000 in
theorem ls_9 : (Cond.selects "LawfulLots$Reader" ⟨"LawfulLots$Reader", "blame", "(II)V"⟩ ⟨"LawfulLots$Reader", "blame", "(II)V"⟩) ∈ gt := List.mem_filter.mpr ⟨List.mem_append_left _ (List.mem_of_getElem? (i := 9) rfl), rfl⟩
set_option maxRecDepth 10000 in
theorem ls_10 : (Cond.selects "LawfulLots$Reader" ⟨"LawfulLots$Reader", "weigh", "()I"⟩ ⟨"LawfulLots$Reader", "weigh", "()I"⟩) ∈ gt := List.mem_filter.mpr ⟨List.mem_append_left _ (List.mem_of_getElem? (i := 10) rfl), rfl⟩
set_option maxRecDepth 10000 in
theorem ls_11 : (Cond.selects "LawfulLots$Reader" ⟨"LawfulLots$Reader", "nameInCode", "(I)I"⟩ ⟨"LawfulLots$Reader", "nameInCode", "(I)I"⟩) ∈ gt := List.mem_filter.mpr ⟨List.mem_append_left _ (List.mem_of_getElem? (i := 11) rfl), rfl⟩
set_option maxRecDepth 10000 in
theorem ls_12 : (Cond.selects "LawfulLots$Reader" ⟨"LawfulLots$Reader", "goOnInBrackets", "(I)I"⟩ ⟨"LawfulLots$Reader", "goOnInBrackets", "(I)I"⟩) ∈ gt := List.mem_filter.mpr ⟨List.mem_append_left _ (List.mem_of_getElem? (i := 12) rfl), rfl⟩
set_option maxRecDepth 10000 in
theorem ls_13 : (Cond.selects "LawfulLots$Reader" ⟨"LawfulLots$Reader", "join", "(II)I"⟩ ⟨"LawfulLots$Reader", "join", "(II)I"⟩) ∈ gt := List.mem_filter.mpr ⟨List.mem_append_left _ (List.mem_of_getElem? (i := 13) rfl), rfl⟩
set_option maxRecDepth 10000 in
theorem ls_14 : (Cond.selects "LawfulLots$Reader" ⟨"LawfulLots$Reader", "release", "(I)V"⟩ ⟨"LawfulLots$Reader", "release", "(I)V"⟩) ∈ gt := List.mem_filter.mpr ⟨List.mem_append_left _ (List.mem_of_getElem? (i := 14) rfl), rfl⟩
set_option maxRecDepth 10000 in
theorem ls_15 : (Cond.selects "LawfulLots$Reader" ⟨"LawfulLots$Reader", "lastWaiting", "()I"⟩ ⟨"LawfulLots$Reader", "lastWaiting", "()I"⟩) ∈ gt := List.mem_filter.mpr ⟨List.mem_append_left _ (List.mem_of_getElem? (i := 15) rfl), rfl⟩
set_option maxRecDepth 10000 in
theorem ls_16 : (Cond.selects "LawfulLots$Reader" ⟨"LawfulLots$Reader", "await", "(I)V"⟩ ⟨"LawfulLots$Reader", "await", "(I)V"⟩) ∈ gt := List.mem_filter.mpr ⟨List.mem_append_left _ (List.mem_of_getElem? (i := 16) rfl), rfl⟩
set_option maxRecDepth 10000 in
theorem ls_17 : (Cond.selects "LawfulLots$Reader" ⟨"LawfulLots$Reader", "closeBracket", "()I"⟩ ⟨"LawfulLots$Reader", "closeBracket", "()I"⟩) ∈ gt := List.mem_filter.mpr ⟨List.mem_append_left _ (List.mem_of_getElem? (i := 17) rfl), rfl⟩
set_option maxRecDepth 10000 in
theorem ls_18 : (Cond.selects "LawfulLots$Reader" ⟨"LawfulLots$Reader", "goOnBehindExpression", "(I)I"⟩ ⟨"LawfulLots$Reader", "goOnBehindExpression", "(I)I"⟩) ∈ gt := List.mem_filter.mpr ⟨List.mem_append_left _ (List.mem_of_getElem? (i := 18) rfl), rfl⟩
set_option maxRecDepth 10000 in
theorem ls_19 : (Cond.selects "LawfulLots$Reader" ⟨"LawfulLots$Reader", "beginShareCondition", "()I"⟩ ⟨"LawfulLots$Reader", "beginShareCondition", "()I"⟩) ∈ gt := List.mem_filter.mpr ⟨List.mem_append_left _ (List.mem_of_getElem? (i := 19) rfl), rfl⟩
set_option maxRecDepth 10000 in
theorem ls_20 : (Cond.selects "LawfulLots$Reader" ⟨"LawfulLots$Reader", "goOnAtUnit", "(I)I"⟩ ⟨"LawfulLots$Reader", "goOnAtUnit", "(I)I"⟩) ∈ gt := List.mem_filter.mpr ⟨List.mem_append_left _ (List.mem_of_getElem? (i := 20) rfl), rfl⟩
set_option maxRecDepth 10000 in
theorem ls_21 : (Cond.selects "LawfulLots$Reader" ⟨"LawfulLots$Reader", "turnLiteral", "()I"⟩ ⟨"LawfulLots$Reader", "turnLiteral", "()I"⟩) ∈ gt := List.mem_filter.mpr ⟨List.mem_append_left _ (List.mem_of_getElem? (i := 21) rfl), rfl⟩
set_option maxRecDepth 10000 in
theorem ls_22 : (Cond.selects "LawfulLots$Reader" ⟨"LawfulLots$Reader", "refuse", "(I)V"⟩ ⟨"LawfulLots$Reader", "refuse", "(I)V"⟩) ∈ gt := List.mem_filter.mpr ⟨List.mem_append_left _ (List.mem_of_getElem? (i := 22) rfl), rfl⟩
set_option maxRecDepth 10000 in
theorem ls_23 : (Cond.selects "LawfulLots" ⟨"LawfulLots", "forgetLawful", "()V"⟩ ⟨"LawfulLots", "forgetLawful", "()V"⟩) ∈ gt := List.mem_filter.mpr ⟨List.mem_append_left _ (List.mem_of_getElem? (i := 23) rfl), rfl⟩
set_option maxRecDepth 10000 in
theorem ls_24 : (Cond.selects "LawfulLots$Chart" ⟨"LawfulLots$Chart", "markLaws", "()V"⟩ ⟨"LawfulLots$Chart", "markLaws", "()V"⟩) ∈ gt := List.mem_filter.mpr ⟨List.mem_append_left _ (List.mem_of_getElem? (i := 24) rfl), rfl⟩
set_option maxRecDepth 10000 in
theorem ls_25 : (Cond.selects "LawfulLots$Chart" ⟨"LawfulLots$Chart", "mark", "(I)V"⟩ ⟨"LawfulLots$Chart", "mark", "(I)V"⟩) ∈ gt := List.mem_filter.mpr ⟨List.mem_append_left _ (List.mem_of_getElem? (i := 25) rfl), rfl⟩
set_option maxRecDepth 10000 in
theorem ls_26 : (Cond.selects "LawfulLots$Chart" ⟨"LawfulLots$Chart", "countStanding", "()V"⟩ ⟨"LawfulLots$Chart", "countStanding", "()V"⟩) ∈ gt := List.mem_filter.mpr ⟨List.mem_append_left _ (List.mem_of_getElem? (i := 26) rfl), rfl⟩
set_option maxRecDepth 10000 in
theorem ls_27 : (Cond.selects "LawfulLots$Chart" ⟨"LawfulLots$Chart", "gather", "()V"⟩ ⟨"LawfulLots$Chart", "gather", "()V"⟩) ∈ gt := List.mem_filter.mpr ⟨List.mem_append_left _ (List.mem_of_getElem? (i := 27) rfl), rfl⟩
set_option maxRecDepth 10000 in
theorem ls_28 : (Cond.selects "LawfulLots$Chart" ⟨"LawfulLots$Chart", "keepSoft", "()V"⟩ ⟨"LawfulLots$Chart", "keepSoft", "()V"⟩) ∈ gt := List.mem_filter.mpr ⟨List.mem_append_left _ (List.mem_of_getElem? (i := 28) rfl), rfl⟩
set_option maxRecDepth 10000 in
theorem ls_29 : (Cond.selects "LawfulLots$Chart" ⟨"LawfulLots$Chart", "heaviest", "(I)I"⟩ ⟨"LawfulLots$Chart", "heaviest", "(I)I"⟩) ∈ gt := List.mem_filter.mpr ⟨List.mem_append_left _ (List.mem_of_getElem? (i := 29) rfl), rfl⟩
set_option maxRecDepth 10000 in
theorem ls_30 : (Cond.selects "LawfulLots$Chart" ⟨"LawfulLots$Chart", "canKeep", "(I)Z"⟩ ⟨"LawfulLots$Chart", "canKeep", "(I)Z"⟩) ∈ gt := List.mem_filter.mpr ⟨List.mem_append_left _ (List.mem_of_getElem? (i := 30) rfl), rfl⟩
set_option maxRecDepth 10000 in
theorem ls_31 : (Cond.selects "LawfulLots$Chart" ⟨"LawfulLots$Chart", "narrow", "()V"⟩ ⟨"LawfulLots$Chart", "narrow", "()V"⟩) ∈ gt := List.mem_filter.mpr ⟨List.mem_append_left _ (List.mem_of_getElem? (i := 31) rfl), rfl⟩
set_option maxRecDepth 10000 in
theorem ls_32 : (Cond.selects "LawfulLots$Chart" ⟨"LawfulLots$Chart", "tellShares", "()V"⟩ ⟨"LawfulLots$Chart", "tellShares", "()V"⟩) ∈ gt := List.mem_filter.mpr ⟨List.mem_append_left _ (List.mem_of_getElem? (i := 32) rfl), rfl⟩
set_option maxRecDepth 10000 in
theorem ls_33 : (Cond.selects "LawfulLots$Chart" ⟨"LawfulLots$Chart", "reachOfShares", "()I"⟩ ⟨"LawfulLots$Chart", "reachOfShares", "()I"⟩) ∈ gt := List.mem_filter.mpr ⟨List.mem_append_left _ (List.mem_of_getElem? (i := 33) rfl), rfl⟩
set_option maxRecDepth 10000 in
theorem ls_34 : (Cond.selects "LawfulLots$Chart" ⟨"LawfulLots$Chart", "shareNow", "()I"⟩ ⟨"LawfulLots$Chart", "shareNow", "()I"⟩) ∈ gt := List.mem_filter.mpr ⟨List.mem_append_left _ (List.mem_of_getElem? (i := 34) rfl), rfl⟩
set_option maxRecDepth 10000 in
theorem ls_35 : (Cond.selects "LawfulLots$Chart" ⟨"LawfulLots$Chart", "addShares", "()V"⟩ ⟨"LawfulLots$Chart", "addShares", "()V"⟩) ∈ gt := List.mem_filter.mpr ⟨List.mem_append_left _ (List.mem_of_getElem? (i := 35) rfl), rfl⟩
set_option maxRecDepth 10000 in
theorem ls_36 : (Cond.selects "LawfulLots" ⟨"LawfulLots", "refreshBins", "()V"⟩ ⟨"LawfulLots", "refreshBins", "()V"⟩) ∈ gt := List.mem_filter.mpr ⟨List.mem_append_left _ (List.mem_of_getElem? (i := 36) rfl), rfl⟩
set_option maxRecDepth 10000 in
theorem ls_37 : (Cond.selects "LawfulLots$BinTable" ⟨"LawfulLots$BinTable", "fewestFor", "(I)I"⟩ ⟨"LawfulLots$BinTable", "fewestFor", "(I)I"⟩) ∈ gt := List.mem_filter.mpr ⟨List.mem_append_left _ (List.mem_of_getElem? (i := 37) rfl), rfl⟩
set_option maxRecDepth 10000 in
theorem ls_38 : (Cond.selects "LawfulLots$BinTable" ⟨"LawfulLots$BinTable", "leastStep", "(I)I"⟩ ⟨"LawfulLots$BinTable", "leastStep", "(I)I"⟩) ∈ gt := List.mem_filter.mpr ⟨List.mem_append_left _ (List.mem_of_getElem? (i := 38) rfl), rfl⟩
set_option maxRecDepth 10000 in
theorem ls_39 : (Cond.selects "LawfulLots$BinTable" ⟨"LawfulLots$BinTable", "noteHeight", "(III)V"⟩ ⟨"LawfulLots$BinTable", "noteHeight", "(III)V"⟩) ∈ gt := List.mem_filter.mpr ⟨List.mem_append_left _ (List.mem_of_getElem? (i := 39) rfl), rfl⟩
set_option maxRecDepth 10000 in
theorem ls_40 : (Cond.selects "LawfulLots" ⟨"LawfulLots", "rowsThereOf", "(I)Z"⟩ ⟨"LawfulLots", "rowsThereOf", "(I)Z"⟩) ∈ gt := List.mem_filter.mpr ⟨List.mem_append_left _ (List.mem_of_getElem? (i := 40) rfl), rfl⟩
set_option maxRecDepth 10000 in
theorem ls_41 : (Cond.selects "LawfulLots$Chains" ⟨"LawfulLots$Chains", "followersOfOld", "(LLawfulLots$Chart;)J"⟩ ⟨"LawfulLots$Chains", "followersOfOld", "(LLawfulLots$Chart;)J"⟩) ∈ gt := List.mem_filter.mpr ⟨List.mem_append_left _ (List.mem_of_getElem? (i := 41) rfl), rfl⟩
set_option maxRecDepth 10000 in
theorem ls_42 : (Cond.selects "LawfulLots$Chains" ⟨"LawfulLots$Chains", "allNextsHold", "(LLawfulLots$Book;)Z"⟩ ⟨"LawfulLots$Chains", "allNextsHold", "(LLawfulLots$Book;)Z"⟩) ∈ gt := List.mem_filter.mpr ⟨List.mem_append_left _ (List.mem_of_getElem? (i := 42) rfl), rfl⟩
set_option maxRecDepth 10000 in
theorem ls_43 : (Cond.selects "LawfulLots$Chains" ⟨"LawfulLots$Chains", "waysOver", "(IJ)J"⟩ ⟨"LawfulLots$Chains", "waysOver", "(IJ)J"⟩) ∈ gt := List.mem_filter.mpr ⟨List.mem_append_left _ (List.mem_of_getElem? (i := 43) rfl), rfl⟩
set_option maxRecDepth 10000 in
theorem ls_44 : (Cond.selects "LawfulLotsModel" ⟨"LawfulLotsModel", "goesThrough", "()V"⟩ ⟨"LawfulLotsModel", "goesThrough", "()V"⟩) ∈ gt := List.mem_filter.mpr ⟨List.mem_append_left _ (List.mem_of_getElem? (i := 44) rfl), rfl⟩
set_option maxRecDepth 10000 in
theorem ls_45 : (Cond.selects "LawfulLotsModel" ⟨"LawfulLotsModel", "looksAt", "(I)V"⟩ ⟨"LawfulLotsModel", "looksAt", "(I)V"⟩) ∈ gt := List.mem_filter.mpr ⟨List.mem_append_left _ (List.mem_of_getElem? (i := 45) rfl), rfl⟩
set_option maxRecDepth 10000 in
theorem ls_46 : (Cond.selects "LawfulLotsModel" ⟨"LawfulLotsModel", "valueOf", "(II)I"⟩ ⟨"LawfulLotsModel", "valueOf", "(II)I"⟩) ∈ gt := List.mem_filter.mpr ⟨List.mem_append_left _ (List.mem_of_getElem? (i := 46) rfl), rfl⟩
set_option maxRecDepth 10000 in
theorem ls_47 : (Cond.selects "LawfulLotsModel" ⟨"LawfulLotsModel", "bitsOf", "(I)I"⟩ ⟨"LawfulLotsModel", "bitsOf", "(I)I"⟩) ∈ gt := List.mem_filter.mpr ⟨List.mem_append_left _ (List.mem_of_getElem? (i := 47) rfl), rfl⟩
set_option maxRecDepth 10000 in
theorem ls_48 : (Cond.selects "LawfulLotsModel" ⟨"LawfulLotsModel", "tellsOf", "(I)I"⟩ ⟨"LawfulLotsModel", "tellsOf", "(I)I"⟩) ∈ gt := List.mem_filter.mpr ⟨List.mem_append_left _ (List.mem_of_getElem? (i := 48) rfl), rfl⟩
set_option maxRecDepth 10000 in
theorem ls_49 : (Cond.selects "LawfulLotsModel" ⟨"LawfulLotsModel", "condOf", "(II)I"⟩ ⟨"LawfulLotsModel", "condOf", "(II)I"⟩) ∈ gt := List.mem_filter.mpr ⟨List.mem_append_left _ (List.mem_of_getElem? (i := 49) rfl), rfl⟩
set_option maxRecDepth 10000 in
theorem ls_50 : (Cond.selects "LawfulLotsModel" ⟨"LawfulLotsModel", "holds", "(I)Z"⟩ ⟨"LawfulLotsModel", "holds", "(I)Z"⟩) ∈ gt := List.mem_filter.mpr ⟨List.mem_append_left _ (List.mem_of_getElem? (i := 50) rfl), rfl⟩
set_option maxRecDepth 10000 in
theorem ls_51 : (Cond.selects "LawfulLotsModel" ⟨"LawfulLotsModel", "termOf", "(II)I"⟩ ⟨"LawfulLotsModel", "termOf", "(II)I"⟩) ∈ gt := List.mem_filter.mpr ⟨List.mem_append_left _ (List.mem_of_getElem? (i := 51) rfl), rfl⟩
set_option maxRecDepth 10000 in
theorem ls_52 : (Cond.selects "LawfulLotsModel" ⟨"LawfulLotsModel", "settles", "()V"⟩ ⟨"LawfulLotsModel", "settles", "()V"⟩) ∈ gt := List.mem_filter.mpr ⟨List.mem_append_left _ (List.mem_of_getElem? (i := 52) rfl), rfl⟩
set_option maxRecDepth 10000 in
theorem ls_53 : (Cond.selects "LawfulLotsModel" ⟨"LawfulLotsModel", "laws", "()I"⟩ ⟨"LawfulLotsModel", "laws", "()I"⟩) ∈ gt := List.mem_filter.mpr ⟨List.mem_append_left _ (List.mem_of_getElem? (i := 53) rfl), rfl⟩
set_option maxRecDepth 10000 in
theorem ls_54 : (Cond.selects "LawfulLotsModel" ⟨"LawfulLotsModel", "isAny", "(II)Z"⟩ ⟨"LawfulLotsModel", "isAny", "(II)Z"⟩) ∈ gt := List.mem_filter.mpr ⟨List.mem_append_left _ (List.mem_of_getElem? (i := 54) rfl), rfl⟩
set_option maxRecDepth 10000 in
theorem ls_55 : (Cond.selects "LawfulLotsModel" ⟨"LawfulLotsModel", "isLawful", "(I)Z"⟩ ⟨"LawfulLotsModel", "isLawful", "(I)Z"⟩) ∈ gt := List.mem_filter.mpr ⟨List.mem_append_left _ (List.mem_of_getElem? (i := 55) rfl), rfl⟩
set_option maxRecDepth 10000 in
theorem ls_56 : (Cond.selects "LawfulLotsModel" ⟨"LawfulLotsModel", "shareOf", "(I)I"⟩ ⟨"LawfulLotsModel", "shareOf", "(I)I"⟩) ∈ gt := List.mem_filter.mpr ⟨List.mem_append_left _ (List.mem_of_getElem? (i := 56) rfl), rfl⟩
set_option maxRecDepth 10000 in
theorem ls_57 : (Cond.selects "LawfulLotsModel" ⟨"LawfulLotsModel", "put", "(I)V"⟩ ⟨"LawfulLotsModel", "put", "(I)V"⟩) ∈ gt := List.mem_filter.mpr ⟨List.mem_append_left _ (List.mem_of_getElem? (i := 57) rfl), rfl⟩
set_option maxRecDepth 10000 in
theorem ls_58 : (Cond.selects "LawfulLotsModel" ⟨"LawfulLotsModel", "cut", "()V"⟩ ⟨"LawfulLotsModel", "cut", "()V"⟩) ∈ gt := List.mem_filter.mpr ⟨List.mem_append_left _ (List.mem_of_getElem? (i := 58) rfl), rfl⟩
set_option maxRecDepth 10000 in
theorem ls_59 : (Cond.selects "LawfulLotsModel" ⟨"LawfulLotsModel", "at", "(I)I"⟩ ⟨"LawfulLotsModel", "at", "(I)I"⟩) ∈ gt := List.mem_filter.mpr ⟨List.mem_append_left _ (List.mem_of_getElem? (i := 59) rfl), rfl⟩
set_option maxRecDepth 10000 in
theorem ls_60 : (Cond.selects "LawfulLotsModel" ⟨"LawfulLotsModel", "token", "(IIIJ)V"⟩ ⟨"LawfulLotsModel", "token", "(IIIJ)V"⟩) ∈ gt := List.mem_filter.mpr ⟨List.mem_append_left _ (List.mem_of_getElem? (i := 60) rfl), rfl⟩
set_option maxRecDepth 10000 in
theorem ls_61 : (Cond.selects "LawfulLotsModel" ⟨"LawfulLotsModel", "sign", "(III)I"⟩ ⟨"LawfulLotsModel", "sign", "(III)I"⟩) ∈ gt := List.mem_filter.mpr ⟨List.mem_append_left _ (List.mem_of_getElem? (i := 61) rfl), rfl⟩
set_option maxRecDepth 10000 in
theorem ls_62 : (Cond.selects "LawfulLotsModel" ⟨"LawfulLotsModel", "is", "(I)Z"⟩ ⟨"LawfulLotsModel", "is", "(I)Z"⟩) ∈ gt := List.mem_filter.mpr ⟨List.mem_append_left _ (List.mem_of_getElem? (i := 62) rfl), rfl⟩
set_option maxRecDepth 10000 in
theorem ls_63 : (Cond.selects "LawfulLotsModel" ⟨"LawfulLotsModel", "tell", "()V"⟩ ⟨"LawfulLotsModel", "tell", "()V"⟩) ∈ gt := List.mem_filter.mpr ⟨List.mem_append_left _ (List.mem_of_getElem? (i := 63) rfl), rfl⟩
set_option maxRecDepth 10000 in
theorem ls_64 : (Cond.selects "LawfulLotsModel" ⟨"LawfulLotsModel", "tellField", "()V"⟩ ⟨"LawfulLotsModel", "tellField", "()V"⟩) ∈ gt := List.mem_filter.mpr ⟨List.mem_append_left _ (List.mem_of_getElem? (i := 64) rfl), rfl⟩
set_option maxRecDepth 10000 in
theorem ls_65 : (Cond.selects "LawfulLotsModel" ⟨"LawfulLotsModel", "fail", "(I)V"⟩ ⟨"LawfulLotsModel", "fail", "(I)V"⟩) ∈ gt := List.mem_filter.mpr ⟨List.mem_append_left _ (List.mem_of_getElem? (i := 65) rfl), rfl⟩
set_option maxRecDepth 10000 in
theorem ls_66 : (Cond.selects "LawfulLotsModel" ⟨"LawfulLotsModel", "next", "()V"⟩ ⟨"LawfulLotsModel", "next", "()V"⟩) ∈ gt := List.mem_filter.mpr ⟨List.mem_append_left _ (List.mem_of_getElem? (i := 66) rfl), rfl⟩
set_option maxRecDepth 10000 in
theorem ls_67 : (Cond.selects "LawfulLotsModel" ⟨"LawfulLotsModel", "must", "(I)V"⟩ ⟨"LawfulLotsModel", "must", "(I)V"⟩) ∈ gt := List.mem_filter.mpr ⟨List.mem_append_left _ (List.mem_of_getElem? (i := 67) rfl), rfl⟩
set_option maxRecDepth 10000 in
theorem ls_68 : (Cond.selects "LawfulLotsModel" ⟨"LawfulLotsModel", "wrong", "(II)V"⟩ ⟨"LawfulLotsModel", "wrong", "(II)V"⟩) ∈ gt := List.mem_filter.mpr ⟨List.mem_append_left _ (List.mem_of_getElem? (i := 68) rfl), rfl⟩
set_option maxRecDepth 10000 in
theorem ls_69 : (Cond.selects "LawfulLotsModel" ⟨"LawfulLotsModel", "expression", "()V"⟩ ⟨"LawfulLotsModel", "expression", "()V"⟩) ∈ gt := List.mem_filter.mpr ⟨List.mem_append_left _ (List.mem_of_getElem? (i := 69) rfl), rfl⟩
set_option maxRecDepth 10000 in
theorem ls_70 : (Cond.selects "LawfulLotsModel" ⟨"LawfulLotsModel", "unit", "()V"⟩ ⟨"LawfulLotsModel", "unit", "()V"⟩) ∈ gt := List.mem_filter.mpr ⟨List.mem_append_left _ (List.mem_of_getElem? (i := 70) rfl), rfl⟩
set_option maxRecDepth 10000 in
theorem ls_71 : (Cond.selects "LawfulLotsModel" ⟨"LawfulLotsModel", "emit", "(II)V"⟩ ⟨"LawfulLotsModel", "emit", "(II)V"⟩) ∈ gt := List.mem_filter.mpr ⟨List.mem_append_left _ (List.mem_of_getElem? (i := 71) rfl), rfl⟩
set_option maxRecDepth 10000 in
theorem ls_72 : (Cond.selects "LawfulLotsModel" ⟨"LawfulLotsModel", "named", "(II)V"⟩ ⟨"LawfulLotsModel", "named", "(II)V"⟩) ∈ gt := List.mem_filter.mpr ⟨List.mem_append_left _ (List.mem_of_getElem? (i := 72) rfl), rfl⟩
set_option maxRecDepth 10000 in
theorem ls_73 : (Cond.selects "LawfulLotsModel" ⟨"LawfulLotsModel", "comesOut", "(Z)V"⟩ ⟨"LawfulLotsModel", "comesOut", "(Z)V"⟩) ∈ gt := List.mem_filter.mpr ⟨List.mem_append_left _ (List.mem_of_getElem? (i := 73) rfl), rfl⟩
set_option maxRecDepth 10000 in
theorem ls_74 : (Cond.selects "LawfulLotsModel" ⟨"LawfulLotsModel", "literal", "(Z)V"⟩ ⟨"LawfulLotsModel", "literal", "(Z)V"⟩) ∈ gt := List.mem_filter.mpr ⟨List.mem_append_left _ (List.mem_of_getElem? (i := 74) rfl), rfl⟩
set_option maxRecDepth 10000 in
theorem ls_75 : (Cond.selects "LawfulLotsModel" ⟨"LawfulLotsModel", "isNumber", "(I)Z"⟩ ⟨"LawfulLotsModel", "isNumber", "(I)Z"⟩) ∈ gt := List.mem_filter.mpr ⟨List.mem_append_left _ (List.mem_of_getElem? (i := 75) rfl), rfl⟩
set_option maxRecDepth 10000 in
theorem ls_76 : (Cond.selects "LawfulLotsModel" ⟨"LawfulLotsModel", "isField", "(I)Z"⟩ ⟨"LawfulLotsModel", "isField", "(I)Z"⟩) ∈ gt := List.mem_filter.mpr ⟨List.mem_append_left _ (List.mem_of_getElem? (i := 76) rfl), rfl⟩
set_option maxRecDepth 10000 in
theorem ls_77 : (Cond.selects "LawfulLotsModel" ⟨"LawfulLotsModel", "picked", "(I)I"⟩ ⟨"LawfulLotsModel", "picked", "(I)I"⟩) ∈ gt := List.mem_filter.mpr ⟨List.mem_append_left _ (List.mem_of_getElem? (i := 77) rfl), rfl⟩
set_option maxRecDepth 10000 in
theorem ls_78 : (Cond.selects "LawfulLotsModel" ⟨"LawfulLotsModel", "isBin", "(I)Z"⟩ ⟨"LawfulLotsModel", "isBin", "(I)Z"⟩) ∈ gt := List.mem_filter.mpr ⟨List.mem_append_left _ (List.mem_of_getElem? (i := 78) rfl), rfl⟩
set_option maxRecDepth 10000 in
theorem ls_79 : (Cond.selects "LawfulLotsModel" ⟨"LawfulLotsModel", "meeting", "(I)I"⟩ ⟨"LawfulLotsModel", "meeting", "(I)I"⟩) ∈ gt := List.mem_filter.mpr ⟨List.mem_append_left _ (List.mem_of_getElem? (i := 79) rfl), rfl⟩
set_option maxRecDepth 10000 in
theorem ls_80 : (Cond.selects "LawfulLotsModel" ⟨"LawfulLotsModel", "hitsOf", "(I)I"⟩ ⟨"LawfulLotsModel", "hitsOf", "(I)I"⟩) ∈ gt := List.mem_filter.mpr ⟨List.mem_append_left _ (List.mem_of_getElem? (i := 80) rfl), rfl⟩
set_option maxRecDepth 10000 in
theorem ls_81 : (Cond.selects "LawfulLotsModel" ⟨"LawfulLotsModel", "wants", "()V"⟩ ⟨"LawfulLotsModel", "wants", "()V"⟩) ∈ gt := List.mem_filter.mpr ⟨List.mem_append_left _ (List.mem_of_getElem? (i := 81) rfl), rfl⟩
set_option maxRecDepth 10000 in
theorem ls_82 : (Cond.selects "LawfulLotsModel" ⟨"LawfulLotsModel", "without", "()I"⟩ ⟨"LawfulLotsModel", "without", "()I"⟩) ∈ gt := List.mem_filter.mpr ⟨List.mem_append_left _ (List.mem_of_getElem? (i := 82) rfl), rfl⟩
set_option maxRecDepth 10000 in
theorem ls_83 : (Cond.selects "LawfulLotsModel" ⟨"LawfulLotsModel", "need", "(II)I"⟩ ⟨"LawfulLotsModel", "need", "(II)I"⟩) ∈ gt := List.mem_filter.mpr ⟨List.mem_append_left _ (List.mem_of_getElem? (i := 83) rfl), rfl⟩
set_option maxRecDepth 10000 in
theorem ls_84 : (Cond.selects "LawfulLotsModel" ⟨"LawfulLotsModel", "counts", "(I)Z"⟩ ⟨"LawfulLotsModel", "counts", "(I)Z"⟩) ∈ gt := List.mem_filter.mpr ⟨List.mem_append_left _ (List.mem_of_getElem? (i := 84) rfl), rfl⟩
