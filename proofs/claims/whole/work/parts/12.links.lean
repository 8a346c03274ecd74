theorem w_1_6 : Jvm.Cond.initialized "MiddleScale$RowSet" ∈ TB := inTB (List.mem_append_right _ (List.mem_append_left _ (List.mem_of_getElem? (i := 6) rfl))) rfl
theorem w_1_29 : Jvm.Cond.initialized "java/lang/Long" ∈ TB := inTB (List.mem_append_right _ (List.mem_append_left _ (List.mem_of_getElem? (i := 29) rfl))) rfl
theorem w_1_165 : Jvm.Cond.fieldLink "MiddleScale$RowSet" (9 : Nat) "MiddleScale$RowSet" "size" "I" ∈ TB := inTB (List.mem_append_right _ (List.mem_append_left _ (List.mem_of_getElem? (i := 165) rfl))) rfl
theorem w_1_172 : Jvm.Cond.fieldLink "MiddleScale$RowSet" (15 : Nat) "MiddleScale$RowSet" "bits" "[J" ∈ TB := inTB (List.mem_append_right _ (List.mem_append_left _ (List.mem_of_getElem? (i := 172) rfl))) rfl
theorem w_1_173 : Jvm.Cond.fieldLink "MiddleScale$RowSet" (19 : Nat) "MiddleScale$RowSet" "live" "[I" ∈ TB := inTB (List.mem_append_right _ (List.mem_append_left _ (List.mem_of_getElem? (i := 173) rfl))) rfl
theorem w_1_174 : Jvm.Cond.fieldLink "MiddleScale$RowSet" (23 : Nat) "MiddleScale$RowSet" "lives" "I" ∈ TB := inTB (List.mem_append_right _ (List.mem_append_left _ (List.mem_of_getElem? (i := 174) rfl))) rfl
theorem w_1_175 : Jvm.Cond.lays "MiddleScale$RowSet" "MiddleScale$RowSet" "size" "I" ∈ TB := inTB (List.mem_append_right _ (List.mem_append_left _ (List.mem_of_getElem? (i := 175) rfl))) rfl
theorem w_1_177 : Jvm.Cond.laysFinal "MiddleScale$RowSet" "MiddleScale$RowSet" "bits" "[J" ∈ TB := inTB (List.mem_append_right _ (List.mem_append_left _ (List.mem_of_getElem? (i := 177) rfl))) rfl
theorem w_1_179 : Jvm.Cond.laysFinal "MiddleScale$RowSet" "MiddleScale$RowSet" "live" "[I" ∈ TB := inTB (List.mem_append_right _ (List.mem_append_left _ (List.mem_of_getElem? (i := 179) rfl))) rfl
theorem w_1_181 : Jvm.Cond.lays "MiddleScale$RowSet" "MiddleScale$RowSet" "lives" "I" ∈ TB := inTB (List.mem_append_right _ (List.mem_append_left _ (List.mem_of_getElem? (i := 181) rfl))) rfl
theorem w_3_1 : Jvm.Cond.instanceMethod ({ cls := "MiddleScale$RowSet", name := "clear", desc := "()V" } : Jvm.MethodName) ∈ TB := inTB (List.mem_append_right _ (List.mem_append_right _ (List.mem_append_right _ (List.mem_append_left _ (List.mem_of_getElem? (i := 1) rfl))))) rfl
theorem w_3_2 : Jvm.Cond.selects "MiddleScale$RowSet" ({ cls := "MiddleScale$RowSet", name := "clear", desc := "()V" } : Jvm.MethodName) ({ cls := "MiddleScale$RowSet", name := "clear", desc := "()V" } : Jvm.MethodName) ∈ TB := inTB (List.mem_append_right _ (List.mem_append_right _ (List.mem_append_right _ (List.mem_append_left _ (List.mem_of_getElem? (i := 2) rfl))))) rfl
theorem w_3_3 : Jvm.Cond.code ({ cls := "MiddleScale$RowSet", name := "clear", desc := "()V" } : Jvm.MethodName) prog_7_method_2_code (2 : Nat) (Option.none : Option Jvm.ClassFile.FieldType) ∈ TB := inTB (List.mem_append_right _ (List.mem_append_right _ (List.mem_append_right _ (List.mem_append_left _ (List.mem_of_getElem? (i := 3) rfl))))) rfl
theorem w_3_10 : Jvm.Cond.instanceMethod ({ cls := "MiddleScale$RowSet", name := "add", desc := "(IJ)V" } : Jvm.MethodName) ∈ TB := inTB (List.mem_append_right _ (List.mem_append_right _ (List.mem_append_right _ (List.mem_append_left _ (List.mem_of_getElem? (i := 10) rfl))))) rfl
theorem w_3_11 : Jvm.Cond.selects "MiddleScale$RowSet" ({ cls := "MiddleScale$RowSet", name := "add", desc := "(IJ)V" } : Jvm.MethodName) ({ cls := "MiddleScale$RowSet", name := "add", desc := "(IJ)V" } : Jvm.MethodName) ∈ TB := inTB (List.mem_append_right _ (List.mem_append_right _ (List.mem_append_right _ (List.mem_append_left _ (List.mem_of_getElem? (i := 11) rfl))))) rfl
theorem w_3_12 : Jvm.Cond.code ({ cls := "MiddleScale$RowSet", name := "add", desc := "(IJ)V" } : Jvm.MethodName) prog_7_method_3_code (4 : Nat) (Option.none : Option Jvm.ClassFile.FieldType) ∈ TB := inTB (List.mem_append_right _ (List.mem_append_right _ (List.mem_append_right _ (List.mem_append_left _ (List.mem_of_getElem? (i := 12) rfl))))) rfl
theorem w_3_13 : Jvm.Cond.methodLink "MiddleScale$RowSet" (26 : Nat) ({ cls := "java/lang/Long", name := "bitCount", desc := "(J)I" } : Jvm.MethodName) ∈ TB := inTB (List.mem_append_right _ (List.mem_append_right _ (List.mem_append_right _ (List.mem_append_left _ (List.mem_of_getElem? (i := 13) rfl))))) rfl
theorem w_3_14 : Jvm.Cond.static ({ cls := "java/lang/Long", name := "bitCount", desc := "(J)I" } : Jvm.MethodName) ∈ TB := inTB (List.mem_append_right _ (List.mem_append_right _ (List.mem_append_right _ (List.mem_append_left _ (List.mem_of_getElem? (i := 14) rfl))))) rfl
theorem w_3_15 : Jvm.Cond.code ({ cls := "java/lang/Long", name := "bitCount", desc := "(J)I" } : Jvm.MethodName) prog_22_method_50_code (2 : Nat) (Option.some Jvm.ClassFile.FieldType.int) ∈ TB := inTB (List.mem_append_right _ (List.mem_append_right _ (List.mem_append_right _ (List.mem_append_left _ (List.mem_of_getElem? (i := 15) rfl))))) rfl
theorem w_3_16 : Jvm.Cond.constantLong "java/lang/Long" (314 : Nat) (6148914691236517205 : Int64) ∈ TB := inTB (List.mem_append_right _ (List.mem_append_right _ (List.mem_append_right _ (List.mem_append_left _ (List.mem_of_getElem? (i := 16) rfl))))) rfl
theorem w_3_17 : Jvm.Cond.constantLong "java/lang/Long" (316 : Nat) (3689348814741910323 : Int64) ∈ TB := inTB (List.mem_append_right _ (List.mem_append_right _ (List.mem_append_right _ (List.mem_append_left _ (List.mem_of_getElem? (i := 17) rfl))))) rfl
theorem w_3_18 : Jvm.Cond.constantLong "java/lang/Long" (318 : Nat) (1085102592571150095 : Int64) ∈ TB := inTB (List.mem_append_right _ (List.mem_append_right _ (List.mem_append_right _ (List.mem_append_left _ (List.mem_of_getElem? (i := 18) rfl))))) rfl
theorem w_3_70 : Jvm.Cond.methodLink "MiddleScale$RowSet" (45 : Nat) ({ cls := "MiddleScale$RowSet", name := "bitAt", desc := "(JI)I" } : Jvm.MethodName) ∈ TB := inTB (List.mem_append_right _ (List.mem_append_right _ (List.mem_append_right _ (List.mem_append_left _ (List.mem_of_getElem? (i := 70) rfl))))) rfl
theorem w_3_71 : Jvm.Cond.static ({ cls := "MiddleScale$RowSet", name := "bitAt", desc := "(JI)I" } : Jvm.MethodName) ∈ TB := inTB (List.mem_append_right _ (List.mem_append_right _ (List.mem_append_right _ (List.mem_append_left _ (List.mem_of_getElem? (i := 71) rfl))))) rfl
theorem w_3_72 : Jvm.Cond.code ({ cls := "MiddleScale$RowSet", name := "bitAt", desc := "(JI)I" } : Jvm.MethodName) prog_7_method_15_code (6 : Nat) (Option.some Jvm.ClassFile.FieldType.int) ∈ TB := inTB (List.mem_append_right _ (List.mem_append_right _ (List.mem_append_right _ (List.mem_append_left _ (List.mem_of_getElem? (i := 72) rfl))))) rfl
theorem w_3_107 : Jvm.Cond.methodLink "MiddleScale$RowSet" (32 : Nat) ({ cls := "MiddleScale$RowSet", name := "clear", desc := "()V" } : Jvm.MethodName) ∈ TB := inTB (List.mem_append_right _ (List.mem_append_right _ (List.mem_append_right _ (List.mem_append_left _ (List.mem_of_getElem? (i := 107) rfl))))) rfl
theorem w_3_108 : Jvm.Cond.methodLink "MiddleScale$RowSet" (35 : Nat) ({ cls := "MiddleScale$RowSet", name := "add", desc := "(IJ)V" } : Jvm.MethodName) ∈ TB := inTB (List.mem_append_right _ (List.mem_append_right _ (List.mem_append_right _ (List.mem_append_left _ (List.mem_of_getElem? (i := 108) rfl))))) rfl
theorem inX5 : ∀ w ∈ u_ws RX5 TX5 4, w ∈ TB := by
  intro w hw
  obtain ⟨k, hk, rfl⟩ := List.mem_map.mp hw
  have hk := List.mem_range.mp hk
  match k, hk with
  | 0, _ => exact w_1_175
  | 1, _ => exact w_1_177
  | 2, _ => exact w_1_179
  | 3, _ => exact w_1_181
  | k + 4, hk => omega
theorem f_RX5_9 : FLk RX5 9 5 0 false true (tyX5 0) := ⟨RX5, TX5, 4, tyX5, rfl, inX5, tyX5_ok, nmX5, rfl, by decide, by decide, w_1_165, rfl, rfl, rfl, rfl⟩
theorem f_RX5_15 : FLk RX5 15 5 1 true false (tyX5 1) := ⟨RX5, TX5, 4, tyX5, rfl, inX5, tyX5_ok, nmX5, rfl, by decide, by decide, w_1_172, rfl, rfl, rfl, rfl⟩
theorem f_RX5_19 : FLk RX5 19 5 2 true false (tyX5 2) := ⟨RX5, TX5, 4, tyX5, rfl, inX5, tyX5_ok, nmX5, rfl, by decide, by decide, w_1_173, rfl, rfl, rfl, rfl⟩
theorem f_RX5_23 : FLk RX5 23 5 3 false true (tyX5 3) := ⟨RX5, TX5, 4, tyX5, rfl, inX5, tyX5_ok, nmX5, rfl, by decide, by decide, w_1_174, rfl, rfl, rfl, rfl⟩
abbrev hJ13_bitCount_95d88 : Cond := .code yJ13_bitCount_95d88 cJ13_bitCount_95d88 2 (some .int)
abbrev hX5_add : Cond := .code yX5_add cX5_add 4 none
abbrev hX5_bitAt : Cond := .code yX5_bitAt cX5_bitAt 6 (some .int)
abbrev hX5_clear : Cond := .code yX5_clear cX5_clear 2 none
theorem k_RX5_26 : CVk RX5 26 yJ13_bitCount_95d88 cJ13_bitCount_95d88 2 (some .int) 1 := ⟨w_3_15, w_3_13, w_1_29, ⟨by decide, by decide, by decide +kernel⟩, by decide⟩
theorem k_RX5_32 : CVk RX5 32 yX5_clear cX5_clear 2 none 0 := ⟨w_3_3, w_3_107, w_1_6, ⟨by decide, by decide, by decide +kernel⟩, by decide⟩
theorem k_RX5_35 : CVk RX5 35 yX5_add cX5_add 4 none 2 := ⟨w_3_12, w_3_108, w_1_6, ⟨by decide, by decide, by decide +kernel⟩, by decide⟩
theorem k_RX5_45 : CVk RX5 45 yX5_bitAt cX5_bitAt 6 (some .int) 2 := ⟨w_3_72, w_3_70, w_1_6, ⟨by decide, by decide, by decide +kernel⟩, by decide⟩
