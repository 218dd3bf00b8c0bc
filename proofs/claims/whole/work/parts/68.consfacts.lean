/-! words and facts for the constructors, by program (wip/whole/cons.py) -/
theorem kw56 : (Jvm.Cond.methodLink "AllHome$Rules" (3 : Nat) ({ cls := "java/lang/Object", name := "<init>", desc := "()V" } : Jvm.MethodName)) ∈ zTb := zTb_in (List.mem_of_getElem? (i := 122) (by decide +kernel)) (by decide +kernel)
theorem kw18 : (Jvm.Cond.instanceMethod ({ cls := "java/lang/Object", name := "<init>", desc := "()V" } : Jvm.MethodName)) ∈ zTb := zTb_in (List.mem_of_getElem? (i := 84) (by decide +kernel)) (by decide +kernel)
theorem kw19 : (Jvm.Cond.code ({ cls := "java/lang/Object", name := "<init>", desc := "()V" } : Jvm.MethodName) object_method_1_code (1 : Nat) (Option.none : Option Jvm.ClassFile.FieldType)) ∈ zTb := zTb_in (List.mem_of_getElem? (i := 85) (by decide +kernel)) (by decide +kernel)
theorem kw116 : (Jvm.Cond.methodLink "AllHome$Acts" (3 : Nat) ({ cls := "java/lang/Object", name := "<init>", desc := "()V" } : Jvm.MethodName)) ∈ zTb := zTb_in (List.mem_of_getElem? (i := 182) (by decide +kernel)) (by decide +kernel)
theorem kw41 : (Jvm.Cond.arrayClass Jvm.ClassFile.FieldType.int) ∈ zTb := zTb_in (List.mem_of_getElem? (i := 107) (by decide +kernel)) (by decide +kernel)
theorem kw162 : (Jvm.Cond.methodLink "AllHome$Shelf" (3 : Nat) ({ cls := "java/lang/Object", name := "<init>", desc := "()V" } : Jvm.MethodName)) ∈ zTb := zTb_in (List.mem_of_getElem? (i := 228) (by decide +kernel)) (by decide +kernel)
theorem kw176 : (Jvm.Cond.arrayClass Jvm.ClassFile.FieldType.long) ∈ zTb := zTb_in (List.mem_of_getElem? (i := 242) (by decide +kernel)) (by decide +kernel)
theorem kw136 : (Jvm.Cond.methodLink "AllHome$Run" (3 : Nat) ({ cls := "java/lang/Object", name := "<init>", desc := "()V" } : Jvm.MethodName)) ∈ zTb := zTb_in (List.mem_of_getElem? (i := 202) (by decide +kernel)) (by decide +kernel)
theorem kw137 : (Jvm.Cond.classLink "AllHome$Run" (15 : Nat) "AllHome$Rules") ∈ zTb := zTb_in (List.mem_of_getElem? (i := 203) (by decide +kernel)) (by decide +kernel)
theorem kw52 : (Jvm.Cond.instantiable "AllHome$Rules" (3 : Nat)) ∈ zTb := zTb_in (List.mem_of_getElem? (i := 118) (by decide +kernel)) (by decide +kernel)
theorem kw138 : (Jvm.Cond.methodLink "AllHome$Run" (17 : Nat) ({ cls := "AllHome$Rules", name := "<init>", desc := "(LAllHome$Huts;)V" } : Jvm.MethodName)) ∈ zTb := zTb_in (List.mem_of_getElem? (i := 204) (by decide +kernel)) (by decide +kernel)
theorem kw54 : (Jvm.Cond.instanceMethod ({ cls := "AllHome$Rules", name := "<init>", desc := "(LAllHome$Huts;)V" } : Jvm.MethodName)) ∈ zTb := zTb_in (List.mem_of_getElem? (i := 120) (by decide +kernel)) (by decide +kernel)
theorem kw55 : (Jvm.Cond.code ({ cls := "AllHome$Rules", name := "<init>", desc := "(LAllHome$Huts;)V" } : Jvm.MethodName) prog_5_method_1_code (2 : Nat) (Option.none : Option Jvm.ClassFile.FieldType)) ∈ zTb := zTb_in (List.mem_of_getElem? (i := 121) (by decide +kernel)) (by decide +kernel)
theorem kw25 : (Jvm.Cond.methodLink "AllHome$Huts" (3 : Nat) ({ cls := "java/lang/Object", name := "<init>", desc := "()V" } : Jvm.MethodName)) ∈ zTb := zTb_in (List.mem_of_getElem? (i := 91) (by decide +kernel)) (by decide +kernel)
theorem kw26 : (Jvm.Cond.classLink "AllHome$Huts" (11 : Nat) "[[I") ∈ zTb := zTb_in (List.mem_of_getElem? (i := 92) (by decide +kernel)) (by decide +kernel)
theorem kw49 : (Jvm.Cond.methodLink "AllHome$Orders" (5 : Nat) ({ cls := "java/lang/Object", name := "<init>", desc := "()V" } : Jvm.MethodName)) ∈ zTb := zTb_in (List.mem_of_getElem? (i := 115) (by decide +kernel)) (by decide +kernel)
theorem kw50 : (Jvm.Cond.classLink "AllHome$Orders" (11 : Nat) "[[I") ∈ zTb := zTb_in (List.mem_of_getElem? (i := 116) (by decide +kernel)) (by decide +kernel)
theorem kw67 : (Jvm.Cond.arrayClass Jvm.ClassFile.FieldType.boolean) ∈ zTb := zTb_in (List.mem_of_getElem? (i := 133) (by decide +kernel)) (by decide +kernel)
theorem kw51 : (Jvm.Cond.classLink "AllHome$Orders" (50 : Nat) "AllHome$Rules") ∈ zTb := zTb_in (List.mem_of_getElem? (i := 117) (by decide +kernel)) (by decide +kernel)
theorem kw53 : (Jvm.Cond.methodLink "AllHome$Orders" (52 : Nat) ({ cls := "AllHome$Rules", name := "<init>", desc := "(LAllHome$Huts;)V" } : Jvm.MethodName)) ∈ zTb := zTb_in (List.mem_of_getElem? (i := 119) (by decide +kernel)) (by decide +kernel)
theorem kw17 : (Jvm.Cond.methodLink "AllHome" (3 : Nat) ({ cls := "java/lang/Object", name := "<init>", desc := "()V" } : Jvm.MethodName)) ∈ zTb := zTb_in (List.mem_of_getElem? (i := 83) (by decide +kernel)) (by decide +kernel)
theorem kw20 : (Jvm.Cond.classLink "AllHome" (13 : Nat) "AllHome$Huts") ∈ zTb := zTb_in (List.mem_of_getElem? (i := 86) (by decide +kernel)) (by decide +kernel)
theorem kw21 : (Jvm.Cond.instantiable "AllHome$Huts" (4 : Nat)) ∈ zTb := zTb_in (List.mem_of_getElem? (i := 87) (by decide +kernel)) (by decide +kernel)
theorem kw23 : (Jvm.Cond.instanceMethod ({ cls := "AllHome$Huts", name := "<init>", desc := "()V" } : Jvm.MethodName)) ∈ zTb := zTb_in (List.mem_of_getElem? (i := 89) (by decide +kernel)) (by decide +kernel)
theorem kw24 : (Jvm.Cond.code ({ cls := "AllHome$Huts", name := "<init>", desc := "()V" } : Jvm.MethodName) prog_3_method_1_code (1 : Nat) (Option.none : Option Jvm.ClassFile.FieldType)) ∈ zTb := zTb_in (List.mem_of_getElem? (i := 90) (by decide +kernel)) (by decide +kernel)
theorem kw42 : (Jvm.Cond.classLink "AllHome" (23 : Nat) "AllHome$Run") ∈ zTb := zTb_in (List.mem_of_getElem? (i := 108) (by decide +kernel)) (by decide +kernel)
theorem kw44 : (Jvm.Cond.classLink "AllHome" (32 : Nat) "AllHome$Orders") ∈ zTb := zTb_in (List.mem_of_getElem? (i := 110) (by decide +kernel)) (by decide +kernel)
theorem kw45 : (Jvm.Cond.instantiable "AllHome$Orders" (14 : Nat)) ∈ zTb := zTb_in (List.mem_of_getElem? (i := 111) (by decide +kernel)) (by decide +kernel)
theorem kw46 : (Jvm.Cond.methodLink "AllHome" (34 : Nat) ({ cls := "AllHome$Orders", name := "<init>", desc := "(LAllHome$Huts;)V" } : Jvm.MethodName)) ∈ zTb := zTb_in (List.mem_of_getElem? (i := 112) (by decide +kernel)) (by decide +kernel)
theorem kw47 : (Jvm.Cond.instanceMethod ({ cls := "AllHome$Orders", name := "<init>", desc := "(LAllHome$Huts;)V" } : Jvm.MethodName)) ∈ zTb := zTb_in (List.mem_of_getElem? (i := 113) (by decide +kernel)) (by decide +kernel)
theorem kw48 : (Jvm.Cond.code ({ cls := "AllHome$Orders", name := "<init>", desc := "(LAllHome$Huts;)V" } : Jvm.MethodName) prog_4_method_1_code (2 : Nat) (Option.none : Option Jvm.ClassFile.FieldType)) ∈ zTb := zTb_in (List.mem_of_getElem? (i := 114) (by decide +kernel)) (by decide +kernel)
theorem kw111 : (Jvm.Cond.classLink "AllHome" (44 : Nat) "AllHome$Acts") ∈ zTb := zTb_in (List.mem_of_getElem? (i := 177) (by decide +kernel)) (by decide +kernel)
theorem kw112 : (Jvm.Cond.instantiable "AllHome$Acts" (4 : Nat)) ∈ zTb := zTb_in (List.mem_of_getElem? (i := 178) (by decide +kernel)) (by decide +kernel)
theorem kw114 : (Jvm.Cond.instanceMethod ({ cls := "AllHome$Acts", name := "<init>", desc := "()V" } : Jvm.MethodName)) ∈ zTb := zTb_in (List.mem_of_getElem? (i := 180) (by decide +kernel)) (by decide +kernel)
theorem kw115 : (Jvm.Cond.code ({ cls := "AllHome$Acts", name := "<init>", desc := "()V" } : Jvm.MethodName) prog_2_method_1_code (1 : Nat) (Option.none : Option Jvm.ClassFile.FieldType)) ∈ zTb := zTb_in (List.mem_of_getElem? (i := 181) (by decide +kernel)) (by decide +kernel)
theorem kw130 : (Jvm.Cond.classLink "AllHome" (51 : Nat) "AllHome$Shelf") ∈ zTb := zTb_in (List.mem_of_getElem? (i := 196) (by decide +kernel)) (by decide +kernel)
theorem kw132 : (Jvm.Cond.instantiable "AllHome$Run" (6 : Nat)) ∈ zTb := zTb_in (List.mem_of_getElem? (i := 198) (by decide +kernel)) (by decide +kernel)
theorem kw133 : (Jvm.Cond.methodLink "AllHome" (57 : Nat) ({ cls := "AllHome$Run", name := "<init>", desc := "(LAllHome$Huts;)V" } : Jvm.MethodName)) ∈ zTb := zTb_in (List.mem_of_getElem? (i := 199) (by decide +kernel)) (by decide +kernel)
theorem kw134 : (Jvm.Cond.instanceMethod ({ cls := "AllHome$Run", name := "<init>", desc := "(LAllHome$Huts;)V" } : Jvm.MethodName)) ∈ zTb := zTb_in (List.mem_of_getElem? (i := 200) (by decide +kernel)) (by decide +kernel)
theorem kw135 : (Jvm.Cond.code ({ cls := "AllHome$Run", name := "<init>", desc := "(LAllHome$Huts;)V" } : Jvm.MethodName) prog_6_method_1_code (2 : Nat) (Option.none : Option Jvm.ClassFile.FieldType)) ∈ zTb := zTb_in (List.mem_of_getElem? (i := 201) (by decide +kernel)) (by decide +kernel)
theorem kw158 : (Jvm.Cond.instantiable "AllHome$Shelf" (4 : Nat)) ∈ zTb := zTb_in (List.mem_of_getElem? (i := 224) (by decide +kernel)) (by decide +kernel)
theorem kw160 : (Jvm.Cond.instanceMethod ({ cls := "AllHome$Shelf", name := "<init>", desc := "()V" } : Jvm.MethodName)) ∈ zTb := zTb_in (List.mem_of_getElem? (i := 226) (by decide +kernel)) (by decide +kernel)
theorem kw161 : (Jvm.Cond.code ({ cls := "AllHome$Shelf", name := "<init>", desc := "()V" } : Jvm.MethodName) prog_7_method_1_code (1 : Nat) (Option.none : Option Jvm.ClassFile.FieldType)) ∈ zTb := zTb_in (List.mem_of_getElem? (i := 227) (by decide +kernel)) (by decide +kernel)
theorem kw672 : (Jvm.Cond.methodLink "AllHomeModel" (3 : Nat) ({ cls := "java/lang/Object", name := "<init>", desc := "()V" } : Jvm.MethodName)) ∈ zTb := zTb_in (List.mem_of_getElem? (i := 738) (by decide +kernel)) (by decide +kernel)
theorem P_Rules_9 : zFp "AllHome$Rules" 9 3 0 (.object "AllHome$Huts") true := ⟨by decide, "AllHome$Rules", nT3, 3, nY3, rfl, nI3, by decide, kw57, nP3, nN3, by decide +kernel, rfl, rfl⟩
theorem P_Acts_11 : zFp "AllHome$Acts" 11 0 0 (.array .int) true := ⟨by decide, "AllHome$Acts", nT0, 4, nY0, rfl, nI0, by decide, kw117, nP0, nN0, by decide +kernel, rfl, rfl⟩
theorem P_Shelf_11 : zFp "AllHome$Shelf" 11 5 0 (.array .long) true := ⟨by decide, "AllHome$Shelf", nT5, 4, nY5, rfl, nI5, by decide, kw163, nP5, nN5, by decide +kernel, rfl, rfl⟩
theorem P_Run_9 : zFp "AllHome$Run" 9 4 1 (.array .int) true := ⟨by decide, "AllHome$Run", nT4, 6, nY4, rfl, nI4, by decide, kw140, nP4, nN4, by decide +kernel, rfl, rfl⟩
theorem J_Run_17 : zCI "AllHome$Run" 17 y_Rules_init prog_5_method_1_code 2 1 := ⟨kw138, kw54, kw4, kw55, ⟨by decide +kernel, by decide +kernel, by decide +kernel⟩, rfl⟩
theorem P_Run_20 : zFp "AllHome$Run" 20 4 0 (.object "AllHome$Rules") true := ⟨by decide, "AllHome$Run", nT4, 6, nY4, rfl, nI4, by decide, kw139, nP4, nN4, by decide +kernel, rfl, rfl⟩
theorem P_Huts_13 : zFp "AllHome$Huts" 13 1 0 (.array (.array .int)) true := ⟨by decide, "AllHome$Huts", nT1, 4, nY1, rfl, nI1, by decide, kw28, nP1, nN1, by decide +kernel, rfl, rfl⟩
theorem P_Huts_16 : zFp "AllHome$Huts" 16 1 1 (.array (.array .int)) true := ⟨by decide, "AllHome$Huts", nT1, 4, nY1, rfl, nI1, by decide, kw29, nP1, nN1, by decide +kernel, rfl, rfl⟩
theorem P_Huts_19 : zFp "AllHome$Huts" 19 1 2 (.array .int) true := ⟨by decide, "AllHome$Huts", nT1, 4, nY1, rfl, nI1, by decide, kw30, nP1, nN1, by decide +kernel, rfl, rfl⟩
theorem P_Orders_13 : zFp "AllHome$Orders" 13 2 2 (.array (.array .int)) true := ⟨by decide, "AllHome$Orders", nT2, 14, nY2, rfl, nI2, by decide, kw70, nP2, nN2, by decide +kernel, rfl, rfl⟩
theorem P_Orders_16 : zFp "AllHome$Orders" 16 2 3 (.array .int) true := ⟨by decide, "AllHome$Orders", nT2, 14, nY2, rfl, nI2, by decide, kw71, nP2, nN2, by decide +kernel, rfl, rfl⟩
theorem P_Orders_20 : zFp "AllHome$Orders" 20 2 4 (.array .int) true := ⟨by decide, "AllHome$Orders", nT2, 14, nY2, rfl, nI2, by decide, kw72, nP2, nN2, by decide +kernel, rfl, rfl⟩
theorem P_Orders_23 : zFp "AllHome$Orders" 23 2 5 (.array .int) true := ⟨by decide, "AllHome$Orders", nT2, 14, nY2, rfl, nI2, by decide, kw73, nP2, nN2, by decide +kernel, rfl, rfl⟩
theorem P_Orders_26 : zFp "AllHome$Orders" 26 2 6 (.array .int) true := ⟨by decide, "AllHome$Orders", nT2, 14, nY2, rfl, nI2, by decide, kw74, nP2, nN2, by decide +kernel, rfl, rfl⟩
theorem P_Orders_29 : zFp "AllHome$Orders" 29 2 7 (.array (.array .int)) true := ⟨by decide, "AllHome$Orders", nT2, 14, nY2, rfl, nI2, by decide, kw75, nP2, nN2, by decide +kernel, rfl, rfl⟩
theorem P_Orders_32 : zFp "AllHome$Orders" 32 2 8 (.array .int) true := ⟨by decide, "AllHome$Orders", nT2, 14, nY2, rfl, nI2, by decide, kw76, nP2, nN2, by decide +kernel, rfl, rfl⟩
theorem P_Orders_35 : zFp "AllHome$Orders" 35 2 9 (.array .boolean) true := ⟨by decide, "AllHome$Orders", nT2, 14, nY2, rfl, nI2, by decide, kw77, nP2, nN2, by decide +kernel, rfl, rfl⟩
theorem P_Orders_39 : zFp "AllHome$Orders" 39 2 10 (.array .int) true := ⟨by decide, "AllHome$Orders", nT2, 14, nY2, rfl, nI2, by decide, kw78, nP2, nN2, by decide +kernel, rfl, rfl⟩
theorem P_Orders_46 : zFp "AllHome$Orders" 46 2 0 (.object "AllHome$Huts") true := ⟨by decide, "AllHome$Orders", nT2, 14, nY2, rfl, nI2, by decide, kw68, nP2, nN2, by decide +kernel, rfl, rfl⟩
theorem J_Orders_52 : zCI "AllHome$Orders" 52 y_Rules_init prog_5_method_1_code 2 1 := ⟨kw53, kw54, kw4, kw55, ⟨by decide +kernel, by decide +kernel, by decide +kernel⟩, rfl⟩
theorem P_Orders_55 : zFp "AllHome$Orders" 55 2 1 (.object "AllHome$Rules") true := ⟨by decide, "AllHome$Orders", nT2, 14, nY2, rfl, nI2, by decide, kw69, nP2, nN2, by decide +kernel, rfl, rfl⟩
theorem P_Home_9 : zFp "AllHome" 9 6 0 (.array .int) true := ⟨by decide, "AllHome", nT6, 12, nY6, rfl, nI6, by decide, kw177, nP6, nN6, by decide +kernel, rfl, rfl⟩
theorem J_Home_15 : zCJ "AllHome" 15 y_Huts_init prog_3_method_1_code 1 0 := ⟨(List.mem_of_getElem? (i := 0) rfl), kw23, kw2, kw24, ⟨by decide +kernel, by decide +kernel, by decide +kernel⟩, rfl⟩
theorem P_Home_16 : zFp "AllHome" 16 6 2 (.object "AllHome$Huts") true := ⟨by decide, "AllHome", nT6, 12, nY6, rfl, nI6, by decide, kw179, nP6, nN6, by decide +kernel, rfl, rfl⟩
theorem P_Home_20 : zFp "AllHome" 20 6 3 (.array .int) true := ⟨by decide, "AllHome", nT6, 12, nY6, rfl, nI6, by decide, kw180, nP6, nN6, by decide +kernel, rfl, rfl⟩
theorem P_Home_25 : zFp "AllHome" 25 6 5 (.array (.object "AllHome$Run")) true := ⟨by decide, "AllHome", nT6, 12, nY6, rfl, nI6, by decide, kw182, nP6, nN6, by decide +kernel, rfl, rfl⟩
theorem P_Home_29 : zFp "AllHome" 29 6 7 (.array .int) true := ⟨by decide, "AllHome", nT6, 12, nY6, rfl, nI6, by decide, kw184, nP6, nN6, by decide +kernel, rfl, rfl⟩
theorem J_Home_34 : zCI "AllHome" 34 y_Orders_init prog_4_method_1_code 2 1 := ⟨kw46, kw47, kw3, kw48, ⟨by decide +kernel, by decide +kernel, by decide +kernel⟩, rfl⟩
theorem P_Home_37 : zFp "AllHome" 37 6 8 (.object "AllHome$Orders") true := ⟨by decide, "AllHome", nT6, 12, nY6, rfl, nI6, by decide, kw185, nP6, nN6, by decide +kernel, rfl, rfl⟩
theorem P_Home_41 : zFp "AllHome" 41 6 9 (.object "AllHome$Orders") true := ⟨by decide, "AllHome", nT6, 12, nY6, rfl, nI6, by decide, kw186, nP6, nN6, by decide +kernel, rfl, rfl⟩
theorem J_Home_46 : zCJ "AllHome" 46 y_Acts_init prog_2_method_1_code 1 0 := ⟨(List.mem_of_getElem? (i := 1) rfl), kw114, kw5, kw115, ⟨by decide +kernel, by decide +kernel, by decide +kernel⟩, rfl⟩
theorem P_Home_47 : zFp "AllHome" 47 6 10 (.object "AllHome$Acts") true := ⟨by decide, "AllHome", nT6, 12, nY6, rfl, nI6, by decide, kw187, nP6, nN6, by decide +kernel, rfl, rfl⟩
theorem P_Home_53 : zFp "AllHome" 53 6 11 (.array (.object "AllHome$Shelf")) true := ⟨by decide, "AllHome", nT6, 12, nY6, rfl, nI6, by decide, kw188, nP6, nN6, by decide +kernel, rfl, rfl⟩
theorem J_Home_57 : zCI "AllHome" 57 y_Run_init prog_6_method_1_code 2 1 := ⟨kw133, kw134, kw6, kw135, ⟨by decide +kernel, by decide +kernel, by decide +kernel⟩, rfl⟩
theorem J_Home_58 : zCJ "AllHome" 58 y_Shelf_init prog_7_method_1_code 1 0 := ⟨(List.mem_of_getElem? (i := 2) rfl), kw160, kw7, kw161, ⟨by decide +kernel, by decide +kernel, by decide +kernel⟩, rfl⟩
theorem P_Model_9 : zFp "AllHomeModel" 9 7 0 (.array .int) true := ⟨by decide, "AllHomeModel", nT7, 33, nY7, rfl, nI7, by decide, kw673, nP7, nN7, by decide +kernel, rfl, rfl⟩
theorem P_Model_13 : zFp "AllHomeModel" 13 7 2 (.array .int) true := ⟨by decide, "AllHomeModel", nT7, 33, nY7, rfl, nI7, by decide, kw675, nP7, nN7, by decide +kernel, rfl, rfl⟩
theorem P_Model_16 : zFp "AllHomeModel" 16 7 3 (.array .int) true := ⟨by decide, "AllHomeModel", nT7, 33, nY7, rfl, nI7, by decide, kw676, nP7, nN7, by decide +kernel, rfl, rfl⟩
theorem P_Model_19 : zFp "AllHomeModel" 19 7 5 (.array .int) true := ⟨by decide, "AllHomeModel", nT7, 33, nY7, rfl, nI7, by decide, kw678, nP7, nN7, by decide +kernel, rfl, rfl⟩
theorem P_Model_22 : zFp "AllHomeModel" 22 7 7 (.array .int) true := ⟨by decide, "AllHomeModel", nT7, 33, nY7, rfl, nI7, by decide, kw680, nP7, nN7, by decide +kernel, rfl, rfl⟩
theorem P_Model_25 : zFp "AllHomeModel" 25 7 12 (.array .int) true := ⟨by decide, "AllHomeModel", nT7, 33, nY7, rfl, nI7, by decide, kw685, nP7, nN7, by decide +kernel, rfl, rfl⟩
theorem P_Model_28 : zFp "AllHomeModel" 28 7 13 (.array .int) true := ⟨by decide, "AllHomeModel", nT7, 33, nY7, rfl, nI7, by decide, kw686, nP7, nN7, by decide +kernel, rfl, rfl⟩
theorem P_Model_31 : zFp "AllHomeModel" 31 7 14 (.array .int) true := ⟨by decide, "AllHomeModel", nT7, 33, nY7, rfl, nI7, by decide, kw687, nP7, nN7, by decide +kernel, rfl, rfl⟩
theorem P_Model_34 : zFp "AllHomeModel" 34 7 15 (.array .int) true := ⟨by decide, "AllHomeModel", nT7, 33, nY7, rfl, nI7, by decide, kw688, nP7, nN7, by decide +kernel, rfl, rfl⟩
theorem P_Model_37 : zFp "AllHomeModel" 37 7 16 (.array .int) true := ⟨by decide, "AllHomeModel", nT7, 33, nY7, rfl, nI7, by decide, kw689, nP7, nN7, by decide +kernel, rfl, rfl⟩
theorem P_Model_40 : zFp "AllHomeModel" 40 7 17 (.array .int) true := ⟨by decide, "AllHomeModel", nT7, 33, nY7, rfl, nI7, by decide, kw690, nP7, nN7, by decide +kernel, rfl, rfl⟩
theorem P_Model_43 : zFp "AllHomeModel" 43 7 18 (.array .int) true := ⟨by decide, "AllHomeModel", nT7, 33, nY7, rfl, nI7, by decide, kw691, nP7, nN7, by decide +kernel, rfl, rfl⟩
theorem P_Model_46 : zFp "AllHomeModel" 46 7 20 (.array .int) true := ⟨by decide, "AllHomeModel", nT7, 33, nY7, rfl, nI7, by decide, kw693, nP7, nN7, by decide +kernel, rfl, rfl⟩
theorem P_Model_49 : zFp "AllHomeModel" 49 7 21 (.array .int) true := ⟨by decide, "AllHomeModel", nT7, 33, nY7, rfl, nI7, by decide, kw694, nP7, nN7, by decide +kernel, rfl, rfl⟩
theorem P_Model_52 : zFp "AllHomeModel" 52 7 22 (.array .int) true := ⟨by decide, "AllHomeModel", nT7, 33, nY7, rfl, nI7, by decide, kw695, nP7, nN7, by decide +kernel, rfl, rfl⟩
theorem P_Model_55 : zFp "AllHomeModel" 55 7 23 (.array .boolean) true := ⟨by decide, "AllHomeModel", nT7, 33, nY7, rfl, nI7, by decide, kw696, nP7, nN7, by decide +kernel, rfl, rfl⟩
theorem P_Model_59 : zFp "AllHomeModel" 59 7 24 (.array .boolean) true := ⟨by decide, "AllHomeModel", nT7, 33, nY7, rfl, nI7, by decide, kw697, nP7, nN7, by decide +kernel, rfl, rfl⟩
theorem P_Model_62 : zFp "AllHomeModel" 62 7 26 (.array .int) true := ⟨by decide, "AllHomeModel", nT7, 33, nY7, rfl, nI7, by decide, kw699, nP7, nN7, by decide +kernel, rfl, rfl⟩
theorem P_Model_65 : zFp "AllHomeModel" 65 7 29 (.array .int) true := ⟨by decide, "AllHomeModel", nT7, 33, nY7, rfl, nI7, by decide, kw702, nP7, nN7, by decide +kernel, rfl, rfl⟩
theorem P_Model_68 : zFp "AllHomeModel" 68 7 30 (.array .int) true := ⟨by decide, "AllHomeModel", nT7, 33, nY7, rfl, nI7, by decide, kw703, nP7, nN7, by decide +kernel, rfl, rfl⟩
theorem P_Model_71 : zFp "AllHomeModel" 71 7 31 (.array .long) true := ⟨by decide, "AllHomeModel", nT7, 33, nY7, rfl, nI7, by decide, kw704, nP7, nN7, by decide +kernel, rfl, rfl⟩
theorem P_Model_75 : zFp "AllHomeModel" 75 7 32 (.array .long) true := ⟨by decide, "AllHomeModel", nT7, 33, nY7, rfl, nI7, by decide, kw705, nP7, nN7, by decide +kernel, rfl, rfl⟩
