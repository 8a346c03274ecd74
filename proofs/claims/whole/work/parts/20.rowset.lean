theorem dJ13_bitCount_95d88_0 : decode cJ13_bitCount_95d88 0 = .ok (.lload_n 0, 1) := by decide +kernel
theorem dJ13_bitCount_95d88_1 : decode cJ13_bitCount_95d88 1 = .ok (.lload_n 0, 1) := by decide +kernel
theorem dJ13_bitCount_95d88_2 : decode cJ13_bitCount_95d88 2 = .ok (.iconst 1, 1) := by decide +kernel
theorem dJ13_bitCount_95d88_3 : decode cJ13_bitCount_95d88 3 = .ok (.lushr, 1) := by decide +kernel
theorem dJ13_bitCount_95d88_4 : decode cJ13_bitCount_95d88 4 = .ok (.ldc2_w 314, 3) := by decide +kernel
theorem dJ13_bitCount_95d88_7 : decode cJ13_bitCount_95d88 7 = .ok (.land, 1) := by decide +kernel
theorem dJ13_bitCount_95d88_8 : decode cJ13_bitCount_95d88 8 = .ok (.lsub, 1) := by decide +kernel
theorem dJ13_bitCount_95d88_9 : decode cJ13_bitCount_95d88 9 = .ok (.lstore_n 0, 1) := by decide +kernel
theorem dJ13_bitCount_95d88_10 : decode cJ13_bitCount_95d88 10 = .ok (.lload_n 0, 1) := by decide +kernel
theorem dJ13_bitCount_95d88_11 : decode cJ13_bitCount_95d88 11 = .ok (.ldc2_w 316, 3) := by decide +kernel
theorem dJ13_bitCount_95d88_14 : decode cJ13_bitCount_95d88 14 = .ok (.land, 1) := by decide +kernel
theorem dJ13_bitCount_95d88_15 : decode cJ13_bitCount_95d88 15 = .ok (.lload_n 0, 1) := by decide +kernel
theorem dJ13_bitCount_95d88_16 : decode cJ13_bitCount_95d88 16 = .ok (.iconst 2, 1) := by decide +kernel
theorem dJ13_bitCount_95d88_17 : decode cJ13_bitCount_95d88 17 = .ok (.lushr, 1) := by decide +kernel
theorem dJ13_bitCount_95d88_18 : decode cJ13_bitCount_95d88 18 = .ok (.ldc2_w 316, 3) := by decide +kernel
theorem dJ13_bitCount_95d88_21 : decode cJ13_bitCount_95d88 21 = .ok (.land, 1) := by decide +kernel
theorem dJ13_bitCount_95d88_22 : decode cJ13_bitCount_95d88 22 = .ok (.ladd, 1) := by decide +kernel
theorem dJ13_bitCount_95d88_23 : decode cJ13_bitCount_95d88 23 = .ok (.lstore_n 0, 1) := by decide +kernel
theorem dJ13_bitCount_95d88_24 : decode cJ13_bitCount_95d88 24 = .ok (.lload_n 0, 1) := by decide +kernel
theorem dJ13_bitCount_95d88_25 : decode cJ13_bitCount_95d88 25 = .ok (.lload_n 0, 1) := by decide +kernel
theorem dJ13_bitCount_95d88_26 : decode cJ13_bitCount_95d88 26 = .ok (.iconst 4, 1) := by decide +kernel
theorem dJ13_bitCount_95d88_27 : decode cJ13_bitCount_95d88 27 = .ok (.lushr, 1) := by decide +kernel
theorem dJ13_bitCount_95d88_28 : decode cJ13_bitCount_95d88 28 = .ok (.ladd, 1) := by decide +kernel
theorem dJ13_bitCount_95d88_29 : decode cJ13_bitCount_95d88 29 = .ok (.ldc2_w 318, 3) := by decide +kernel
theorem dJ13_bitCount_95d88_32 : decode cJ13_bitCount_95d88 32 = .ok (.land, 1) := by decide +kernel
theorem dJ13_bitCount_95d88_33 : decode cJ13_bitCount_95d88 33 = .ok (.lstore_n 0, 1) := by decide +kernel
theorem dJ13_bitCount_95d88_34 : decode cJ13_bitCount_95d88 34 = .ok (.lload_n 0, 1) := by decide +kernel
theorem dJ13_bitCount_95d88_35 : decode cJ13_bitCount_95d88 35 = .ok (.lload_n 0, 1) := by decide +kernel
theorem dJ13_bitCount_95d88_36 : decode cJ13_bitCount_95d88 36 = .ok (.bipush 8, 2) := by decide +kernel
theorem dJ13_bitCount_95d88_38 : decode cJ13_bitCount_95d88 38 = .ok (.lushr, 1) := by decide +kernel
theorem dJ13_bitCount_95d88_39 : decode cJ13_bitCount_95d88 39 = .ok (.ladd, 1) := by decide +kernel
theorem dJ13_bitCount_95d88_40 : decode cJ13_bitCount_95d88 40 = .ok (.lstore_n 0, 1) := by decide +kernel
theorem dJ13_bitCount_95d88_41 : decode cJ13_bitCount_95d88 41 = .ok (.lload_n 0, 1) := by decide +kernel
theorem dJ13_bitCount_95d88_42 : decode cJ13_bitCount_95d88 42 = .ok (.lload_n 0, 1) := by decide +kernel
theorem dJ13_bitCount_95d88_43 : decode cJ13_bitCount_95d88 43 = .ok (.bipush 16, 2) := by decide +kernel
theorem dJ13_bitCount_95d88_45 : decode cJ13_bitCount_95d88 45 = .ok (.lushr, 1) := by decide +kernel
theorem dJ13_bitCount_95d88_46 : decode cJ13_bitCount_95d88 46 = .ok (.ladd, 1) := by decide +kernel
theorem dJ13_bitCount_95d88_47 : decode cJ13_bitCount_95d88 47 = .ok (.lstore_n 0, 1) := by decide +kernel
theorem dJ13_bitCount_95d88_48 : decode cJ13_bitCount_95d88 48 = .ok (.lload_n 0, 1) := by decide +kernel
theorem dJ13_bitCount_95d88_49 : decode cJ13_bitCount_95d88 49 = .ok (.lload_n 0, 1) := by decide +kernel
theorem dJ13_bitCount_95d88_50 : decode cJ13_bitCount_95d88 50 = .ok (.bipush 32, 2) := by decide +kernel
theorem dJ13_bitCount_95d88_52 : decode cJ13_bitCount_95d88 52 = .ok (.lushr, 1) := by decide +kernel
theorem dJ13_bitCount_95d88_53 : decode cJ13_bitCount_95d88 53 = .ok (.ladd, 1) := by decide +kernel
theorem dJ13_bitCount_95d88_54 : decode cJ13_bitCount_95d88 54 = .ok (.lstore_n 0, 1) := by decide +kernel
theorem dJ13_bitCount_95d88_55 : decode cJ13_bitCount_95d88 55 = .ok (.lload_n 0, 1) := by decide +kernel
theorem dJ13_bitCount_95d88_56 : decode cJ13_bitCount_95d88 56 = .ok (.l2i, 1) := by decide +kernel
theorem dJ13_bitCount_95d88_57 : decode cJ13_bitCount_95d88 57 = .ok (.bipush 127, 2) := by decide +kernel
theorem dJ13_bitCount_95d88_59 : decode cJ13_bitCount_95d88 59 = .ok (.iand, 1) := by decide +kernel
theorem dJ13_bitCount_95d88_60 : decode cJ13_bitCount_95d88 60 = .ok (.ireturn, 1) := by decide +kernel
def VJ13_bitCount_95d88_0 (d : Nat) (Q : Out → MS → Prop) (x0 : BitVec 64) (S : MS) : Prop :=
  Q (.inl (some (vI (iAnd (l2I ((((((((x0 - ((lUshr x0 1) &&& (6148914691236517205#64))) &&& (3689348814741910323#64)) + ((lUshr (x0 - ((lUshr x0 1) &&& (6148914691236517205#64))) 2) &&& (3689348814741910323#64))) + (lUshr (((x0 - ((lUshr x0 1) &&& (6148914691236517205#64))) &&& (3689348814741910323#64)) + ((lUshr (x0 - ((lUshr x0 1) &&& (6148914691236517205#64))) 2) &&& (3689348814741910323#64))) 4)) &&& (1085102592571150095#64)) + (lUshr (((((x0 - ((lUshr x0 1) &&& (6148914691236517205#64))) &&& (3689348814741910323#64)) + ((lUshr (x0 - ((lUshr x0 1) &&& (6148914691236517205#64))) 2) &&& (3689348814741910323#64))) + (lUshr (((x0 - ((lUshr x0 1) &&& (6148914691236517205#64))) &&& (3689348814741910323#64)) + ((lUshr (x0 - ((lUshr x0 1) &&& (6148914691236517205#64))) 2) &&& (3689348814741910323#64))) 4)) &&& (1085102592571150095#64)) 8)) + (lUshr ((((((x0 - ((lUshr x0 1) &&& (6148914691236517205#64))) &&& (3689348814741910323#64)) + ((lUshr (x0 - ((lUshr x0 1) &&& (6148914691236517205#64))) 2) &&& (3689348814741910323#64))) + (lUshr (((x0 - ((lUshr x0 1) &&& (6148914691236517205#64))) &&& (3689348814741910323#64)) + ((lUshr (x0 - ((lUshr x0 1) &&& (6148914691236517205#64))) 2) &&& (3689348814741910323#64))) 4)) &&& (1085102592571150095#64)) + (lUshr (((((x0 - ((lUshr x0 1) &&& (6148914691236517205#64))) &&& (3689348814741910323#64)) + ((lUshr (x0 - ((lUshr x0 1) &&& (6148914691236517205#64))) 2) &&& (3689348814741910323#64))) + (lUshr (((x0 - ((lUshr x0 1) &&& (6148914691236517205#64))) &&& (3689348814741910323#64)) + ((lUshr (x0 - ((lUshr x0 1) &&& (6148914691236517205#64))) 2) &&& (3689348814741910323#64))) 4)) &&& (1085102592571150095#64)) 8)) 16)) + (lUshr (((((((x0 - ((lUshr x0 1) &&& (6148914691236517205#64))) &&& (3689348814741910323#64)) + ((lUshr (x0 - ((lUshr x0 1) &&& (6148914691236517205#64))) 2) &&& (3689348814741910323#64))) + (lUshr (((x0 - ((lUshr x0 1) &&& (6148914691236517205#64))) &&& (3689348814741910323#64)) + ((lUshr (x0 - ((lUshr x0 1) &&& (6148914691236517205#64))) 2) &&& (3689348814741910323#64))) 4)) &&& (1085102592571150095#64)) + (lUshr (((((x0 - ((lUshr x0 1) &&& (6148914691236517205#64))) &&& (3689348814741910323#64)) + ((lUshr (x0 - ((lUshr x0 1) &&& (6148914691236517205#64))) 2) &&& (3689348814741910323#64))) + (lUshr (((x0 - ((lUshr x0 1) &&& (6148914691236517205#64))) &&& (3689348814741910323#64)) + ((lUshr (x0 - ((lUshr x0 1) &&& (6148914691236517205#64))) 2) &&& (3689348814741910323#64))) 4)) &&& (1085102592571150095#64)) 8)) + (lUshr ((((((x0 - ((lUshr x0 1) &&& (6148914691236517205#64))) &&& (3689348814741910323#64)) + ((lUshr (x0 - ((lUshr x0 1) &&& (6148914691236517205#64))) 2) &&& (3689348814741910323#64))) + (lUshr (((x0 - ((lUshr x0 1) &&& (6148914691236517205#64))) &&& (3689348814741910323#64)) + ((lUshr (x0 - ((lUshr x0 1) &&& (6148914691236517205#64))) 2) &&& (3689348814741910323#64))) 4)) &&& (1085102592571150095#64)) + (lUshr (((((x0 - ((lUshr x0 1) &&& (6148914691236517205#64))) &&& (3689348814741910323#64)) + ((lUshr (x0 - ((lUshr x0 1) &&& (6148914691236517205#64))) 2) &&& (3689348814741910323#64))) + (lUshr (((x0 - ((lUshr x0 1) &&& (6148914691236517205#64))) &&& (3689348814741910323#64)) + ((lUshr (x0 - ((lUshr x0 1) &&& (6148914691236517205#64))) 2) &&& (3689348814741910323#64))) 4)) &&& (1085102592571150095#64)) 8)) 16)) 32))) 127)))) S
theorem JJ13_bitCount_95d88_0 {d : Nat} {S0 : MS} {Q : Out → MS → Prop} (x0 : BitVec 64) (S : MS) (h : VJ13_bitCount_95d88_0 d Q x0 S) : Jw FinM RJ13 cJ13_bitCount_95d88 2 (some .int) [] yJ13_bitCount_95d88 (d + 1) S0 S 0 [(0, vL x0)] [] Q :=
  j_lload_n 0 dJ13_bitCount_95d88_0 rfl (j_lload_n 0 dJ13_bitCount_95d88_1 rfl (j_iconst dJ13_bitCount_95d88_2 (j_lushr dJ13_bitCount_95d88_3 (j_ldc2 dJ13_bitCount_95d88_4 w_3_16 rfl (j_land dJ13_bitCount_95d88_7 (j_lsub dJ13_bitCount_95d88_8 (j_lstore_n (lv2 := [(0, vL (x0 - ((lUshr x0 1) &&& (6148914691236517205#64))))]) dJ13_bitCount_95d88_9 (by decide) rfl (j_lload_n 0 dJ13_bitCount_95d88_10 rfl (j_ldc2 dJ13_bitCount_95d88_11 w_3_17 rfl (j_land dJ13_bitCount_95d88_14 (j_lload_n 0 dJ13_bitCount_95d88_15 rfl (j_iconst dJ13_bitCount_95d88_16 (j_lushr dJ13_bitCount_95d88_17 (j_ldc2 dJ13_bitCount_95d88_18 w_3_17 rfl (j_land dJ13_bitCount_95d88_21 (j_ladd dJ13_bitCount_95d88_22 (j_lstore_n (lv2 := [(0, vL (((x0 - ((lUshr x0 1) &&& (6148914691236517205#64))) &&& (3689348814741910323#64)) + ((lUshr (x0 - ((lUshr x0 1) &&& (6148914691236517205#64))) 2) &&& (3689348814741910323#64))))]) dJ13_bitCount_95d88_23 (by decide) rfl (j_lload_n 0 dJ13_bitCount_95d88_24 rfl (j_lload_n 0 dJ13_bitCount_95d88_25 rfl (j_iconst dJ13_bitCount_95d88_26 (j_lushr dJ13_bitCount_95d88_27 (j_ladd dJ13_bitCount_95d88_28 (j_ldc2 dJ13_bitCount_95d88_29 w_3_18 rfl (j_land dJ13_bitCount_95d88_32 (j_lstore_n (lv2 := [(0, vL (((((x0 - ((lUshr x0 1) &&& (6148914691236517205#64))) &&& (3689348814741910323#64)) + ((lUshr (x0 - ((lUshr x0 1) &&& (6148914691236517205#64))) 2) &&& (3689348814741910323#64))) + (lUshr (((x0 - ((lUshr x0 1) &&& (6148914691236517205#64))) &&& (3689348814741910323#64)) + ((lUshr (x0 - ((lUshr x0 1) &&& (6148914691236517205#64))) 2) &&& (3689348814741910323#64))) 4)) &&& (1085102592571150095#64)))]) dJ13_bitCount_95d88_33 (by decide) rfl (j_lload_n 0 dJ13_bitCount_95d88_34 rfl (j_lload_n 0 dJ13_bitCount_95d88_35 rfl (j_bipush dJ13_bitCount_95d88_36 rfl (j_lushr dJ13_bitCount_95d88_38 (j_ladd dJ13_bitCount_95d88_39 (j_lstore_n (lv2 := [(0, vL ((((((x0 - ((lUshr x0 1) &&& (6148914691236517205#64))) &&& (3689348814741910323#64)) + ((lUshr (x0 - ((lUshr x0 1) &&& (6148914691236517205#64))) 2) &&& (3689348814741910323#64))) + (lUshr (((x0 - ((lUshr x0 1) &&& (6148914691236517205#64))) &&& (3689348814741910323#64)) + ((lUshr (x0 - ((lUshr x0 1) &&& (6148914691236517205#64))) 2) &&& (3689348814741910323#64))) 4)) &&& (1085102592571150095#64)) + (lUshr (((((x0 - ((lUshr x0 1) &&& (6148914691236517205#64))) &&& (3689348814741910323#64)) + ((lUshr (x0 - ((lUshr x0 1) &&& (6148914691236517205#64))) 2) &&& (3689348814741910323#64))) + (lUshr (((x0 - ((lUshr x0 1) &&& (6148914691236517205#64))) &&& (3689348814741910323#64)) + ((lUshr (x0 - ((lUshr x0 1) &&& (6148914691236517205#64))) 2) &&& (3689348814741910323#64))) 4)) &&& (1085102592571150095#64)) 8)))]) dJ13_bitCount_95d88_40 (by decide) rfl (j_lload_n 0 dJ13_bitCount_95d88_41 rfl (j_lload_n 0 dJ13_bitCount_95d88_42 rfl (j_bipush dJ13_bitCount_95d88_43 rfl (j_lushr dJ13_bitCount_95d88_45 (j_ladd dJ13_bitCount_95d88_46 (j_lstore_n (lv2 := [(0, vL (((((((x0 - ((lUshr x0 1) &&& (6148914691236517205#64))) &&& (3689348814741910323#64)) + ((lUshr (x0 - ((lUshr x0 1) &&& (6148914691236517205#64))) 2) &&& (3689348814741910323#64))) + (lUshr (((x0 - ((lUshr x0 1) &&& (6148914691236517205#64))) &&& (3689348814741910323#64)) + ((lUshr (x0 - ((lUshr x0 1) &&& (6148914691236517205#64))) 2) &&& (3689348814741910323#64))) 4)) &&& (1085102592571150095#64)) + (lUshr (((((x0 - ((lUshr x0 1) &&& (6148914691236517205#64))) &&& (3689348814741910323#64)) + ((lUshr (x0 - ((lUshr x0 1) &&& (6148914691236517205#64))) 2) &&& (3689348814741910323#64))) + (lUshr (((x0 - ((lUshr x0 1) &&& (6148914691236517205#64))) &&& (3689348814741910323#64)) + ((lUshr (x0 - ((lUshr x0 1) &&& (6148914691236517205#64))) 2) &&& (3689348814741910323#64))) 4)) &&& (1085102592571150095#64)) 8)) + (lUshr ((((((x0 - ((lUshr x0 1) &&& (6148914691236517205#64))) &&& (3689348814741910323#64)) + ((lUshr (x0 - ((lUshr x0 1) &&& (6148914691236517205#64))) 2) &&& (3689348814741910323#64))) + (lUshr (((x0 - ((lUshr x0 1) &&& (6148914691236517205#64))) &&& (3689348814741910323#64)) + ((lUshr (x0 - ((lUshr x0 1) &&& (6148914691236517205#64))) 2) &&& (3689348814741910323#64))) 4)) &&& (1085102592571150095#64)) + (lUshr (((((x0 - ((lUshr x0 1) &&& (6148914691236517205#64))) &&& (3689348814741910323#64)) + ((lUshr (x0 - ((lUshr x0 1) &&& (6148914691236517205#64))) 2) &&& (3689348814741910323#64))) + (lUshr (((x0 - ((lUshr x0 1) &&& (6148914691236517205#64))) &&& (3689348814741910323#64)) + ((lUshr (x0 - ((lUshr x0 1) &&& (6148914691236517205#64))) 2) &&& (3689348814741910323#64))) 4)) &&& (1085102592571150095#64)) 8)) 16)))]) dJ13_bitCount_95d88_47 (by decide) rfl (j_lload_n 0 dJ13_bitCount_95d88_48 rfl (j_lload_n 0 dJ13_bitCount_95d88_49 rfl (j_bipush dJ13_bitCount_95d88_50 rfl (j_lushr dJ13_bitCount_95d88_52 (j_ladd dJ13_bitCount_95d88_53 (j_lstore_n (lv2 := [(0, vL ((((((((x0 - ((lUshr x0 1) &&& (6148914691236517205#64))) &&& (3689348814741910323#64)) + ((lUshr (x0 - ((lUshr x0 1) &&& (6148914691236517205#64))) 2) &&& (3689348814741910323#64))) + (lUshr (((x0 - ((lUshr x0 1) &&& (6148914691236517205#64))) &&& (3689348814741910323#64)) + ((lUshr (x0 - ((lUshr x0 1) &&& (6148914691236517205#64))) 2) &&& (3689348814741910323#64))) 4)) &&& (1085102592571150095#64)) + (lUshr (((((x0 - ((lUshr x0 1) &&& (6148914691236517205#64))) &&& (3689348814741910323#64)) + ((lUshr (x0 - ((lUshr x0 1) &&& (6148914691236517205#64))) 2) &&& (3689348814741910323#64))) + (lUshr (((x0 - ((lUshr x0 1) &&& (6148914691236517205#64))) &&& (3689348814741910323#64)) + ((lUshr (x0 - ((lUshr x0 1) &&& (6148914691236517205#64))) 2) &&& (3689348814741910323#64))) 4)) &&& (1085102592571150095#64)) 8)) + (lUshr ((((((x0 - ((lUshr x0 1) &&& (6148914691236517205#64))) &&& (3689348814741910323#64)) + ((lUshr (x0 - ((lUshr x0 1) &&& (6148914691236517205#64))) 2) &&& (3689348814741910323#64))) + (lUshr (((x0 - ((lUshr x0 1) &&& (6148914691236517205#64))) &&& (3689348814741910323#64)) + ((lUshr (x0 - ((lUshr x0 1) &&& (6148914691236517205#64))) 2) &&& (3689348814741910323#64))) 4)) &&& (1085102592571150095#64)) + (lUshr (((((x0 - ((lUshr x0 1) &&& (6148914691236517205#64))) &&& (3689348814741910323#64)) + ((lUshr (x0 - ((lUshr x0 1) &&& (6148914691236517205#64))) 2) &&& (3689348814741910323#64))) + (lUshr (((x0 - ((lUshr x0 1) &&& (6148914691236517205#64))) &&& (3689348814741910323#64)) + ((lUshr (x0 - ((lUshr x0 1) &&& (6148914691236517205#64))) 2) &&& (3689348814741910323#64))) 4)) &&& (1085102592571150095#64)) 8)) 16)) + (lUshr (((((((x0 - ((lUshr x0 1) &&& (6148914691236517205#64))) &&& (3689348814741910323#64)) + ((lUshr (x0 - ((lUshr x0 1) &&& (6148914691236517205#64))) 2) &&& (3689348814741910323#64))) + (lUshr (((x0 - ((lUshr x0 1) &&& (6148914691236517205#64))) &&& (3689348814741910323#64)) + ((lUshr (x0 - ((lUshr x0 1) &&& (6148914691236517205#64))) 2) &&& (3689348814741910323#64))) 4)) &&& (1085102592571150095#64)) + (lUshr (((((x0 - ((lUshr x0 1) &&& (6148914691236517205#64))) &&& (3689348814741910323#64)) + ((lUshr (x0 - ((lUshr x0 1) &&& (6148914691236517205#64))) 2) &&& (3689348814741910323#64))) + (lUshr (((x0 - ((lUshr x0 1) &&& (6148914691236517205#64))) &&& (3689348814741910323#64)) + ((lUshr (x0 - ((lUshr x0 1) &&& (6148914691236517205#64))) 2) &&& (3689348814741910323#64))) 4)) &&& (1085102592571150095#64)) 8)) + (lUshr ((((((x0 - ((lUshr x0 1) &&& (6148914691236517205#64))) &&& (3689348814741910323#64)) + ((lUshr (x0 - ((lUshr x0 1) &&& (6148914691236517205#64))) 2) &&& (3689348814741910323#64))) + (lUshr (((x0 - ((lUshr x0 1) &&& (6148914691236517205#64))) &&& (3689348814741910323#64)) + ((lUshr (x0 - ((lUshr x0 1) &&& (6148914691236517205#64))) 2) &&& (3689348814741910323#64))) 4)) &&& (1085102592571150095#64)) + (lUshr (((((x0 - ((lUshr x0 1) &&& (6148914691236517205#64))) &&& (3689348814741910323#64)) + ((lUshr (x0 - ((lUshr x0 1) &&& (6148914691236517205#64))) 2) &&& (3689348814741910323#64))) + (lUshr (((x0 - ((lUshr x0 1) &&& (6148914691236517205#64))) &&& (3689348814741910323#64)) + ((lUshr (x0 - ((lUshr x0 1) &&& (6148914691236517205#64))) 2) &&& (3689348814741910323#64))) 4)) &&& (1085102592571150095#64)) 8)) 16)) 32)))]) dJ13_bitCount_95d88_54 (by decide) rfl (j_lload_n 0 dJ13_bitCount_95d88_55 rfl (j_l2i dJ13_bitCount_95d88_56 (j_bipush dJ13_bitCount_95d88_57 rfl (j_iand dJ13_bitCount_95d88_59 (j_iret rfl dJ13_bitCount_95d88_60 h))))))))))))))))))))))))))))))))))))))))))))))))
theorem dX5_shared_0 : decode cX5_shared 0 = .ok (.iconst 0, 1) := by decide +kernel
theorem dX5_shared_1 : decode cX5_shared 1 = .ok (.istore_n 2, 1) := by decide +kernel
theorem dX5_shared_2 : decode cX5_shared 2 = .ok (.iconst 0, 1) := by decide +kernel
theorem dX5_shared_3 : decode cX5_shared 3 = .ok (.istore_n 3, 1) := by decide +kernel
theorem dX5_shared_4 : decode cX5_shared 4 = .ok (.iload_n 3, 1) := by decide +kernel
theorem dX5_shared_5 : decode cX5_shared 5 = .ok (.aload_n 0, 1) := by decide +kernel
theorem dX5_shared_6 : decode cX5_shared 6 = .ok (.getfield 23, 3) := by decide +kernel
theorem dX5_shared_9 : decode cX5_shared 9 = .ok (.if_icmp .ge 46, 3) := by decide +kernel
theorem dX5_shared_12 : decode cX5_shared 12 = .ok (.aload_n 0, 1) := by decide +kernel
theorem dX5_shared_13 : decode cX5_shared 13 = .ok (.getfield 19, 3) := by decide +kernel
theorem dX5_shared_16 : decode cX5_shared 16 = .ok (.iload_n 3, 1) := by decide +kernel
theorem dX5_shared_17 : decode cX5_shared 17 = .ok (.iaload, 1) := by decide +kernel
theorem dX5_shared_18 : decode cX5_shared 18 = .ok (.istore 4, 2) := by decide +kernel
theorem dX5_shared_20 : decode cX5_shared 20 = .ok (.iload_n 2, 1) := by decide +kernel
theorem dX5_shared_21 : decode cX5_shared 21 = .ok (.iload 4, 2) := by decide +kernel
theorem dX5_shared_23 : decode cX5_shared 23 = .ok (.aload_n 1, 1) := by decide +kernel
theorem dX5_shared_24 : decode cX5_shared 24 = .ok (.arraylength, 1) := by decide +kernel
theorem dX5_shared_25 : decode cX5_shared 25 = .ok (.if_icmp .ge 21, 3) := by decide +kernel
theorem dX5_shared_28 : decode cX5_shared 28 = .ok (.aload_n 0, 1) := by decide +kernel
theorem dX5_shared_29 : decode cX5_shared 29 = .ok (.getfield 15, 3) := by decide +kernel
theorem dX5_shared_32 : decode cX5_shared 32 = .ok (.iload 4, 2) := by decide +kernel
theorem dX5_shared_34 : decode cX5_shared 34 = .ok (.laload, 1) := by decide +kernel
theorem dX5_shared_35 : decode cX5_shared 35 = .ok (.aload_n 1, 1) := by decide +kernel
theorem dX5_shared_36 : decode cX5_shared 36 = .ok (.iload 4, 2) := by decide +kernel
theorem dX5_shared_38 : decode cX5_shared 38 = .ok (.laload, 1) := by decide +kernel
theorem dX5_shared_39 : decode cX5_shared 39 = .ok (.land, 1) := by decide +kernel
theorem dX5_shared_40 : decode cX5_shared 40 = .ok (.invokestatic 26, 3) := by decide +kernel
theorem dX5_shared_43 : decode cX5_shared 43 = .ok (.goto 4, 3) := by decide +kernel
theorem dX5_shared_46 : decode cX5_shared 46 = .ok (.iconst 0, 1) := by decide +kernel
theorem dX5_shared_47 : decode cX5_shared 47 = .ok (.iadd, 1) := by decide +kernel
theorem dX5_shared_48 : decode cX5_shared 48 = .ok (.istore_n 2, 1) := by decide +kernel
theorem dX5_shared_49 : decode cX5_shared 49 = .ok (.iinc 3 1, 3) := by decide +kernel
theorem dX5_shared_52 : decode cX5_shared 52 = .ok (.goto (-48), 3) := by decide +kernel
theorem dX5_shared_55 : decode cX5_shared 55 = .ok (.iload_n 2, 1) := by decide +kernel
theorem dX5_shared_56 : decode cX5_shared 56 = .ok (.ireturn, 1) := by decide +kernel
def VX5_shared_47 (d : Nat) (c4 : Nat → Nat → Int → Int → MS → Prop) (Q : Out → MS → Prop) (x0 : Nat) (x1 : Nat) (x3 : Int) (t0 : Int) (t1 : Int) (S : MS) : Prop :=
  c4 x0 x1 (t1 + t0) (x3 + 1) S
theorem JX5_shared_47 {d : Nat} {c4 : Nat → Nat → Int → Int → MS → Prop} {S0 : MS} {Q : Out → MS → Prop} (hc4 : ∀ (x0 : Nat) (x1 : Nat) (x2 : Int) (x3 : Int) (S : MS), c4 x0 x1 x2 x3 S → Jw FinM RX5 cX5_shared 5 (some .int) [] yX5_shared (d + 1) S0 S 4 [(0, vA x0), (1, vA x1), (2, vI x2), (3, vI x3)] [] Q) (x0 : Nat) (x1 : Nat) (x3 : Int) (t0 : Int) (t1 : Int) (S : MS) (h : VX5_shared_47 d c4 Q x0 x1 x3 t0 t1 S) : Jw FinM RX5 cX5_shared 5 (some .int) [] yX5_shared (d + 1) S0 S 47 [(0, vA x0), (1, vA x1), (3, vI x3)] [vI t0, vI t1] Q :=
  j_iadd dX5_shared_47 (j_istore_n (lv2 := [(2, vI (t1 + t0)), (0, vA x0), (1, vA x1), (3, vI x3)]) dX5_shared_48 (by decide) rfl (j_iinc 3 (lv2 := [(3, vI (x3 + 1)), (2, vI (t1 + t0)), (0, vA x0), (1, vA x1)]) dX5_shared_49 rfl (by decide) rfl (j_goto (tgt := 4) dX5_shared_52 (by decide) (j_sub [2, 3, 1, 0] rfl (hc4 _ _ _ _ _ h)))))
def VX5_shared_4 (d : Nat) (Q : Out → MS → Prop) : Nat → Nat → Nat → Int → Int → MS → Prop
  | 0, _, _, _, _, _ => False
  | n + 1, x0, x1, x2, x3, S => S.K x0 = 5 ∧ ((R32 x3 ∧ R32 (S.I x0 3)) ∧ (((S.I x0 3) ≤ x3) → Q (.inl (some (vI x2))) S) ∧ (¬ ((S.I x0 3) ≤ x3) → S.K x0 = 5 ∧ ∃ b1, S.R x0 2 = some b1 ∧ ((S.K b1 = 13 ∧ 0 ≤ x3 ∧ x3 < S.N b1) ∧ ((12 ≤ S.K x1 ∧ S.K x1 < 21) ∧ ((R32 (S.I b1 (x3).toNat) ∧ R32 ((S.N x1 : Int))) ∧ ((((S.N x1 : Int)) ≤ (S.I b1 (x3).toNat)) → VX5_shared_47 d (VX5_shared_4 d Q n) Q x0 x1 x3 0 x2 S) ∧ (¬ (((S.N x1 : Int)) ≤ (S.I b1 (x3).toNat)) → S.K x0 = 5 ∧ ∃ b2, S.R x0 1 = some b2 ∧ ((S.K b2 = 14 ∧ 0 ≤ (S.I b1 (x3).toNat) ∧ (S.I b1 (x3).toNat) < S.N b2) ∧ ((S.K x1 = 14 ∧ 0 ≤ (S.I b1 (x3).toNat) ∧ (S.I b1 (x3).toNat) < S.N x1) ∧ (Mw hJ13_bitCount_95d88 yJ13_bitCount_95d88 d [vL ((S.J b2 ((S.I b1 (x3).toNat)).toNat) &&& (S.J x1 ((S.I b1 (x3).toNat)).toNat))] S (oI (fun r3 S3 => VX5_shared_47 d (VX5_shared_4 d Q n) Q x0 x1 x3 r3 x2 S3)))))))))))
theorem JX5_shared_4 {d : Nat} {S0 : MS} {Q : Out → MS → Prop} : ∀ (n : Nat) (x0 : Nat) (x1 : Nat) (x2 : Int) (x3 : Int) (S : MS), VX5_shared_4 d Q n x0 x1 x2 x3 S → Jw FinM RX5 cX5_shared 5 (some .int) [] yX5_shared (d + 1) S0 S 4 [(0, vA x0), (1, vA x1), (2, vI x2), (3, vI x3)] [] Q := by
  intro n
  induction n with
  | zero => intro x0 x1 x2 x3 S h; exact h.elim
  | succ n ih =>
    intro x0 x1 x2 x3 S h
    exact j_iload_n 3 dX5_shared_4 rfl (j_aload_n 0 dX5_shared_5 rfl (j_getI 5 3 f_RX5_23 dX5_shared_6 h (fun h => j_icmp_ge (tgt := 55) dX5_shared_9 (by decide) h (fun h => j_iload_n 2 dX5_shared_55 rfl (j_iret rfl dX5_shared_56 h)) (fun h => j_aload_n 0 dX5_shared_12 rfl (j_getR 5 2 f_RX5_19 dX5_shared_13 h (fun b1 h => j_iload_n 3 dX5_shared_16 rfl (j_iald dX5_shared_17 h (fun h => j_istore (lv2 := [(4, vI (S.I b1 (x3).toNat)), (0, vA x0), (1, vA x1), (2, vI x2), (3, vI x3)]) dX5_shared_18 (by decide) rfl (j_iload_n 3 dX5_shared_20 rfl (j_iload 0 dX5_shared_21 rfl (j_aload_n 2 dX5_shared_23 rfl (j_alen dX5_shared_24 h (fun h => j_icmp_ge (tgt := 46) dX5_shared_25 (by decide) h (fun h => j_iconst dX5_shared_46 (j_sub [1, 2, 4] rfl (JX5_shared_47 ih _ _ _ _ _ _ h))) (fun h => j_aload_n 1 dX5_shared_28 rfl (j_getR 5 1 f_RX5_15 dX5_shared_29 h (fun b2 h => j_iload 0 dX5_shared_32 rfl (j_lald dX5_shared_34 h (fun h => j_aload_n 2 dX5_shared_35 rfl (j_iload 0 dX5_shared_36 rfl (j_lald dX5_shared_38 h (fun h => j_land dX5_shared_39 (j_callS (rest := [vI x2]) [vL ((S.J b2 ((S.I b1 (x3).toNat)).toNat) &&& (S.J x1 ((S.I b1 (x3).toNat)).toNat))] k_RX5_26 w_3_14 rfl rfl (Nat.le_of_ble_eq_true rfl) dX5_shared_40 h (kI (fun r3 S3 h => j_goto (tgt := 47) dX5_shared_43 (by decide) (j_sub [1, 2, 4] rfl (JX5_shared_47 ih _ _ _ _ _ _ h)))) (fun _ _ h => h.elim)))))))))))))))))))))))
def VX5_shared_0 (d : Nat) (Q : Out → MS → Prop) (x0 : Nat) (x1 : Nat) (S : MS) : Prop :=
  ∃ n, VX5_shared_4 d Q n x0 x1 0 0 S
theorem JX5_shared_0 {d : Nat} {S0 : MS} {Q : Out → MS → Prop} (x0 : Nat) (x1 : Nat) (S : MS) (h : VX5_shared_0 d Q x0 x1 S) : Jw FinM RX5 cX5_shared 5 (some .int) [] yX5_shared (d + 1) S0 S 0 [(0, vA x0), (1, vA x1)] [] Q :=
  j_iconst dX5_shared_0 (j_istore_n (lv2 := [(2, vI 0), (0, vA x0), (1, vA x1)]) dX5_shared_1 (by decide) rfl (j_iconst dX5_shared_2 (j_istore_n (lv2 := [(3, vI 0), (2, vI 0), (0, vA x0), (1, vA x1)]) dX5_shared_3 (by decide) rfl (Exists.elim h (fun n h => j_sub [2, 3, 1, 0] rfl (JX5_shared_4 n _ _ _ _ _ h))))))
theorem dX5_clear_0 : decode cX5_clear 0 = .ok (.iconst 0, 1) := by decide +kernel
theorem dX5_clear_1 : decode cX5_clear 1 = .ok (.istore_n 1, 1) := by decide +kernel
theorem dX5_clear_2 : decode cX5_clear 2 = .ok (.iload_n 1, 1) := by decide +kernel
theorem dX5_clear_3 : decode cX5_clear 3 = .ok (.aload_n 0, 1) := by decide +kernel
theorem dX5_clear_4 : decode cX5_clear 4 = .ok (.getfield 23, 3) := by decide +kernel
theorem dX5_clear_7 : decode cX5_clear 7 = .ok (.if_icmp .ge 21, 3) := by decide +kernel
theorem dX5_clear_10 : decode cX5_clear 10 = .ok (.aload_n 0, 1) := by decide +kernel
theorem dX5_clear_11 : decode cX5_clear 11 = .ok (.getfield 15, 3) := by decide +kernel
theorem dX5_clear_14 : decode cX5_clear 14 = .ok (.aload_n 0, 1) := by decide +kernel
theorem dX5_clear_15 : decode cX5_clear 15 = .ok (.getfield 19, 3) := by decide +kernel
theorem dX5_clear_18 : decode cX5_clear 18 = .ok (.iload_n 1, 1) := by decide +kernel
theorem dX5_clear_19 : decode cX5_clear 19 = .ok (.iaload, 1) := by decide +kernel
theorem dX5_clear_20 : decode cX5_clear 20 = .ok (.lconst 0, 1) := by decide +kernel
theorem dX5_clear_21 : decode cX5_clear 21 = .ok (.lastore, 1) := by decide +kernel
theorem dX5_clear_22 : decode cX5_clear 22 = .ok (.iinc 1 1, 3) := by decide +kernel
theorem dX5_clear_25 : decode cX5_clear 25 = .ok (.goto (-23), 3) := by decide +kernel
theorem dX5_clear_28 : decode cX5_clear 28 = .ok (.aload_n 0, 1) := by decide +kernel
theorem dX5_clear_29 : decode cX5_clear 29 = .ok (.iconst 0, 1) := by decide +kernel
theorem dX5_clear_30 : decode cX5_clear 30 = .ok (.putfield 9, 3) := by decide +kernel
theorem dX5_clear_33 : decode cX5_clear 33 = .ok (.aload_n 0, 1) := by decide +kernel
theorem dX5_clear_34 : decode cX5_clear 34 = .ok (.iconst 0, 1) := by decide +kernel
theorem dX5_clear_35 : decode cX5_clear 35 = .ok (.putfield 23, 3) := by decide +kernel
theorem dX5_clear_38 : decode cX5_clear 38 = .ok (.return_, 1) := by decide +kernel
def VX5_clear_2 (d : Nat) (Q : Out → MS → Prop) : Nat → Nat → Int → MS → Prop
  | 0, _, _, _ => False
  | n + 1, x0, x1, S => S.K x0 = 5 ∧ ((R32 x1 ∧ R32 (S.I x0 3)) ∧ (((S.I x0 3) ≤ x1) → S.K x0 = 5 ∧ ((S.setI x0 0 0).K x0 = 5 ∧ (Q (.inl none) ((S.setI x0 0 0).setI x0 3 0)))) ∧ (¬ ((S.I x0 3) ≤ x1) → S.K x0 = 5 ∧ ∃ b1, S.R x0 1 = some b1 ∧ (S.K x0 = 5 ∧ ∃ b2, S.R x0 2 = some b2 ∧ ((S.K b2 = 13 ∧ 0 ≤ x1 ∧ x1 < S.N b2) ∧ ((S.K b1 = 14 ∧ 0 ≤ (S.I b2 (x1).toNat) ∧ (S.I b2 (x1).toNat) < S.N b1) ∧ ((VX5_clear_2 d Q n) x0 (x1 + 1) (S.setJ b1 ((S.I b2 (x1).toNat)).toNat (0#64))))))))
theorem JX5_clear_2 {d : Nat} {S0 : MS} {Q : Out → MS → Prop} : ∀ (n : Nat) (x0 : Nat) (x1 : Int) (S : MS), VX5_clear_2 d Q n x0 x1 S → Jw FinM RX5 cX5_clear 2 none [] yX5_clear (d + 1) S0 S 2 [(0, vA x0), (1, vI x1)] [] Q := by
  intro n
  induction n with
  | zero => intro x0 x1 S h; exact h.elim
  | succ n ih =>
    intro x0 x1 S h
    exact j_iload_n 1 dX5_clear_2 rfl (j_aload_n 0 dX5_clear_3 rfl (j_getI 5 3 f_RX5_23 dX5_clear_4 h (fun h => j_icmp_ge (tgt := 28) dX5_clear_7 (by decide) h (fun h => j_aload_n 0 dX5_clear_28 rfl (j_iconst dX5_clear_29 (j_putI 5 0 f_RX5_9 dX5_clear_30 h (fun h => j_aload_n 0 dX5_clear_33 rfl (j_iconst dX5_clear_34 (j_putI 5 3 f_RX5_23 dX5_clear_35 h (fun h => j_vret rfl dX5_clear_38 h))))))) (fun h => j_aload_n 0 dX5_clear_10 rfl (j_getR 5 1 f_RX5_15 dX5_clear_11 h (fun b1 h => j_aload_n 0 dX5_clear_14 rfl (j_getR 5 2 f_RX5_19 dX5_clear_15 h (fun b2 h => j_iload_n 1 dX5_clear_18 rfl (j_iald dX5_clear_19 h (fun h => j_lconst dX5_clear_20 rfl (j_last dX5_clear_21 h (fun h => j_iinc 1 (lv2 := [(1, vI (x1 + 1)), (0, vA x0)]) dX5_clear_22 rfl (by decide) rfl (j_goto (tgt := 2) dX5_clear_25 (by decide) (j_sub [1, 0] rfl (ih _ _ _ h)))))))))))))))
def VX5_clear_0 (d : Nat) (Q : Out → MS → Prop) (x0 : Nat) (S : MS) : Prop :=
  ∃ n, VX5_clear_2 d Q n x0 0 S
theorem JX5_clear_0 {d : Nat} {S0 : MS} {Q : Out → MS → Prop} (x0 : Nat) (S : MS) (h : VX5_clear_0 d Q x0 S) : Jw FinM RX5 cX5_clear 2 none [] yX5_clear (d + 1) S0 S 0 [(0, vA x0)] [] Q :=
  j_iconst dX5_clear_0 (j_istore_n (lv2 := [(1, vI 0), (0, vA x0)]) dX5_clear_1 (by decide) rfl (Exists.elim h (fun n h => j_sub [1, 0] rfl (JX5_clear_2 n _ _ _ h))))
theorem dX5_add_0 : decode cX5_add 0 = .ok (.lload_n 2, 1) := by decide +kernel
theorem dX5_add_1 : decode cX5_add 1 = .ok (.lconst 0, 1) := by decide +kernel
theorem dX5_add_2 : decode cX5_add 2 = .ok (.lcmp, 1) := by decide +kernel
theorem dX5_add_3 : decode cX5_add 3 = .ok (.ifCond .eq 68, 3) := by decide +kernel
theorem dX5_add_6 : decode cX5_add 6 = .ok (.iload_n 1, 1) := by decide +kernel
theorem dX5_add_7 : decode cX5_add 7 = .ok (.ifCond .lt 64, 3) := by decide +kernel
theorem dX5_add_10 : decode cX5_add 10 = .ok (.iload_n 1, 1) := by decide +kernel
theorem dX5_add_11 : decode cX5_add 11 = .ok (.aload_n 0, 1) := by decide +kernel
theorem dX5_add_12 : decode cX5_add 12 = .ok (.getfield 15, 3) := by decide +kernel
theorem dX5_add_15 : decode cX5_add 15 = .ok (.arraylength, 1) := by decide +kernel
theorem dX5_add_16 : decode cX5_add 16 = .ok (.if_icmp .ge 55, 3) := by decide +kernel
theorem dX5_add_19 : decode cX5_add 19 = .ok (.aload_n 0, 1) := by decide +kernel
theorem dX5_add_20 : decode cX5_add 20 = .ok (.getfield 23, 3) := by decide +kernel
theorem dX5_add_23 : decode cX5_add 23 = .ok (.aload_n 0, 1) := by decide +kernel
theorem dX5_add_24 : decode cX5_add 24 = .ok (.getfield 19, 3) := by decide +kernel
theorem dX5_add_27 : decode cX5_add 27 = .ok (.arraylength, 1) := by decide +kernel
theorem dX5_add_28 : decode cX5_add 28 = .ok (.if_icmp .ge 43, 3) := by decide +kernel
theorem dX5_add_31 : decode cX5_add 31 = .ok (.aload_n 0, 1) := by decide +kernel
theorem dX5_add_32 : decode cX5_add 32 = .ok (.getfield 15, 3) := by decide +kernel
theorem dX5_add_35 : decode cX5_add 35 = .ok (.iload_n 1, 1) := by decide +kernel
theorem dX5_add_36 : decode cX5_add 36 = .ok (.lload_n 2, 1) := by decide +kernel
theorem dX5_add_37 : decode cX5_add 37 = .ok (.lastore, 1) := by decide +kernel
theorem dX5_add_38 : decode cX5_add 38 = .ok (.aload_n 0, 1) := by decide +kernel
theorem dX5_add_39 : decode cX5_add 39 = .ok (.getfield 19, 3) := by decide +kernel
theorem dX5_add_42 : decode cX5_add 42 = .ok (.aload_n 0, 1) := by decide +kernel
theorem dX5_add_43 : decode cX5_add 43 = .ok (.getfield 23, 3) := by decide +kernel
theorem dX5_add_46 : decode cX5_add 46 = .ok (.iload_n 1, 1) := by decide +kernel
theorem dX5_add_47 : decode cX5_add 47 = .ok (.iastore, 1) := by decide +kernel
theorem dX5_add_48 : decode cX5_add 48 = .ok (.aload_n 0, 1) := by decide +kernel
theorem dX5_add_49 : decode cX5_add 49 = .ok (.dup, 1) := by decide +kernel
theorem dX5_add_50 : decode cX5_add 50 = .ok (.getfield 23, 3) := by decide +kernel
theorem dX5_add_53 : decode cX5_add 53 = .ok (.iconst 1, 1) := by decide +kernel
theorem dX5_add_54 : decode cX5_add 54 = .ok (.iadd, 1) := by decide +kernel
theorem dX5_add_55 : decode cX5_add 55 = .ok (.putfield 23, 3) := by decide +kernel
theorem dX5_add_58 : decode cX5_add 58 = .ok (.aload_n 0, 1) := by decide +kernel
theorem dX5_add_59 : decode cX5_add 59 = .ok (.dup, 1) := by decide +kernel
theorem dX5_add_60 : decode cX5_add 60 = .ok (.getfield 9, 3) := by decide +kernel
theorem dX5_add_63 : decode cX5_add 63 = .ok (.lload_n 2, 1) := by decide +kernel
theorem dX5_add_64 : decode cX5_add 64 = .ok (.invokestatic 26, 3) := by decide +kernel
theorem dX5_add_67 : decode cX5_add 67 = .ok (.iadd, 1) := by decide +kernel
theorem dX5_add_68 : decode cX5_add 68 = .ok (.putfield 9, 3) := by decide +kernel
theorem dX5_add_71 : decode cX5_add 71 = .ok (.return_, 1) := by decide +kernel
def VX5_add_0 (d : Nat) (Q : Out → MS → Prop) (x0 : Nat) (x1 : Int) (x2 : BitVec 64) (S : MS) : Prop :=
  R32 (lCmp x2 (0#64)) ∧ (((lCmp x2 (0#64)) = 0) → Q (.inl none) S) ∧ (¬ ((lCmp x2 (0#64)) = 0) → R32 x1 ∧ ((x1 < 0) → Q (.inl none) S) ∧ (¬ (x1 < 0) → S.K x0 = 5 ∧ ∃ b1, S.R x0 1 = some b1 ∧ ((12 ≤ S.K b1 ∧ S.K b1 < 21) ∧ ((R32 x1 ∧ R32 ((S.N b1 : Int))) ∧ ((((S.N b1 : Int)) ≤ x1) → Q (.inl none) S) ∧ (¬ (((S.N b1 : Int)) ≤ x1) → S.K x0 = 5 ∧ (S.K x0 = 5 ∧ ∃ b2, S.R x0 2 = some b2 ∧ ((12 ≤ S.K b2 ∧ S.K b2 < 21) ∧ ((R32 (S.I x0 3) ∧ R32 ((S.N b2 : Int))) ∧ ((((S.N b2 : Int)) ≤ (S.I x0 3)) → Q (.inl none) S) ∧ (¬ (((S.N b2 : Int)) ≤ (S.I x0 3)) → S.K x0 = 5 ∧ ∃ b3, S.R x0 1 = some b3 ∧ ((S.K b3 = 14 ∧ 0 ≤ x1 ∧ x1 < S.N b3) ∧ ((S.setJ b3 (x1).toNat x2).K x0 = 5 ∧ ∃ b4, (S.setJ b3 (x1).toNat x2).R x0 2 = some b4 ∧ ((S.setJ b3 (x1).toNat x2).K x0 = 5 ∧ (((S.setJ b3 (x1).toNat x2).K b4 = 13 ∧ 0 ≤ ((S.setJ b3 (x1).toNat x2).I x0 3) ∧ ((S.setJ b3 (x1).toNat x2).I x0 3) < (S.setJ b3 (x1).toNat x2).N b4) ∧ (((S.setJ b3 (x1).toNat x2).setI b4 (((S.setJ b3 (x1).toNat x2).I x0 3)).toNat x1).K x0 = 5 ∧ (((S.setJ b3 (x1).toNat x2).setI b4 (((S.setJ b3 (x1).toNat x2).I x0 3)).toNat x1).K x0 = 5 ∧ ((((S.setJ b3 (x1).toNat x2).setI b4 (((S.setJ b3 (x1).toNat x2).I x0 3)).toNat x1).setI x0 3 ((((S.setJ b3 (x1).toNat x2).setI b4 (((S.setJ b3 (x1).toNat x2).I x0 3)).toNat x1).I x0 3) + 1)).K x0 = 5 ∧ (Mw hJ13_bitCount_95d88 yJ13_bitCount_95d88 d [vL x2] (((S.setJ b3 (x1).toNat x2).setI b4 (((S.setJ b3 (x1).toNat x2).I x0 3)).toNat x1).setI x0 3 ((((S.setJ b3 (x1).toNat x2).setI b4 (((S.setJ b3 (x1).toNat x2).I x0 3)).toNat x1).I x0 3) + 1)) (oI (fun r5 S5 => S5.K x0 = 5 ∧ (Q (.inl none) (S5.setI x0 0 (((((S.setJ b3 (x1).toNat x2).setI b4 (((S.setJ b3 (x1).toNat x2).I x0 3)).toNat x1).setI x0 3 ((((S.setJ b3 (x1).toNat x2).setI b4 (((S.setJ b3 (x1).toNat x2).I x0 3)).toNat x1).I x0 3) + 1)).I x0 0) + r5))))))))))))))))))))))
theorem JX5_add_0 {d : Nat} {S0 : MS} {Q : Out → MS → Prop} (x0 : Nat) (x1 : Int) (x2 : BitVec 64) (S : MS) (h : VX5_add_0 d Q x0 x1 x2 S) : Jw FinM RX5 cX5_add 4 none [] yX5_add (d + 1) S0 S 0 [(0, vA x0), (1, vI x1), (2, vL x2)] [] Q :=
  j_lload_n 2 dX5_add_0 rfl (j_lconst dX5_add_1 rfl (j_lcmp dX5_add_2 (j_if_eq (tgt := 71) dX5_add_3 (by decide) h (fun h => j_vret rfl dX5_add_71 h) (fun h => j_iload_n 1 dX5_add_6 rfl (j_if_lt (tgt := 71) dX5_add_7 (by decide) h (fun h => j_vret rfl dX5_add_71 h) (fun h => j_iload_n 1 dX5_add_10 rfl (j_aload_n 0 dX5_add_11 rfl (j_getR 5 1 f_RX5_15 dX5_add_12 h (fun b1 h => j_alen dX5_add_15 h (fun h => j_icmp_ge (tgt := 71) dX5_add_16 (by decide) h (fun h => j_vret rfl dX5_add_71 h) (fun h => j_aload_n 0 dX5_add_19 rfl (j_getI 5 3 f_RX5_23 dX5_add_20 h (fun h => j_aload_n 0 dX5_add_23 rfl (j_getR 5 2 f_RX5_19 dX5_add_24 h (fun b2 h => j_alen dX5_add_27 h (fun h => j_icmp_ge (tgt := 71) dX5_add_28 (by decide) h (fun h => j_vret rfl dX5_add_71 h) (fun h => j_aload_n 0 dX5_add_31 rfl (j_getR 5 1 f_RX5_15 dX5_add_32 h (fun b3 h => j_iload_n 1 dX5_add_35 rfl (j_lload_n 2 dX5_add_36 rfl (j_last dX5_add_37 h (fun h => j_aload_n 0 dX5_add_38 rfl (j_getR 5 2 f_RX5_19 dX5_add_39 h (fun b4 h => j_aload_n 0 dX5_add_42 rfl (j_getI 5 3 f_RX5_23 dX5_add_43 h (fun h => j_iload_n 1 dX5_add_46 rfl (j_iast dX5_add_47 h (fun h => j_aload_n 0 dX5_add_48 rfl (j_dup rfl dX5_add_49 (j_getI 5 3 f_RX5_23 dX5_add_50 h (fun h => j_iconst dX5_add_53 (j_iadd dX5_add_54 (j_putI 5 3 f_RX5_23 dX5_add_55 h (fun h => j_aload_n 0 dX5_add_58 rfl (j_dup rfl dX5_add_59 (j_getI 5 0 f_RX5_9 dX5_add_60 h (fun h => j_lload_n 2 dX5_add_63 rfl (j_callS (rest := [vI ((((S.setJ b3 (x1).toNat x2).setI b4 (((S.setJ b3 (x1).toNat x2).I x0 3)).toNat x1).setI x0 3 ((((S.setJ b3 (x1).toNat x2).setI b4 (((S.setJ b3 (x1).toNat x2).I x0 3)).toNat x1).I x0 3) + 1)).I x0 0), vA x0]) [vL x2] k_RX5_26 w_3_14 rfl rfl (Nat.le_of_ble_eq_true rfl) dX5_add_64 h (kI (fun r5 S5 h => j_iadd dX5_add_67 (j_putI 5 0 f_RX5_9 dX5_add_68 h (fun h => j_vret rfl dX5_add_71 h)))) (fun _ _ h => h.elim)))))))))))))))))))))))))))))))))))))))
theorem dX5_copy_0 : decode cX5_copy 0 = .ok (.aload_n 0, 1) := by decide +kernel
theorem dX5_copy_1 : decode cX5_copy 1 = .ok (.invokevirtual 32, 3) := by decide +kernel
theorem dX5_copy_4 : decode cX5_copy 4 = .ok (.iconst 0, 1) := by decide +kernel
theorem dX5_copy_5 : decode cX5_copy 5 = .ok (.istore_n 2, 1) := by decide +kernel
theorem dX5_copy_6 : decode cX5_copy 6 = .ok (.iload_n 2, 1) := by decide +kernel
theorem dX5_copy_7 : decode cX5_copy 7 = .ok (.aload_n 1, 1) := by decide +kernel
theorem dX5_copy_8 : decode cX5_copy 8 = .ok (.getfield 23, 3) := by decide +kernel
theorem dX5_copy_11 : decode cX5_copy 11 = .ok (.if_icmp .ge 30, 3) := by decide +kernel
theorem dX5_copy_14 : decode cX5_copy 14 = .ok (.aload_n 0, 1) := by decide +kernel
theorem dX5_copy_15 : decode cX5_copy 15 = .ok (.aload_n 1, 1) := by decide +kernel
theorem dX5_copy_16 : decode cX5_copy 16 = .ok (.getfield 19, 3) := by decide +kernel
theorem dX5_copy_19 : decode cX5_copy 19 = .ok (.iload_n 2, 1) := by decide +kernel
theorem dX5_copy_20 : decode cX5_copy 20 = .ok (.iaload, 1) := by decide +kernel
theorem dX5_copy_21 : decode cX5_copy 21 = .ok (.aload_n 1, 1) := by decide +kernel
theorem dX5_copy_22 : decode cX5_copy 22 = .ok (.getfield 15, 3) := by decide +kernel
theorem dX5_copy_25 : decode cX5_copy 25 = .ok (.aload_n 1, 1) := by decide +kernel
theorem dX5_copy_26 : decode cX5_copy 26 = .ok (.getfield 19, 3) := by decide +kernel
theorem dX5_copy_29 : decode cX5_copy 29 = .ok (.iload_n 2, 1) := by decide +kernel
theorem dX5_copy_30 : decode cX5_copy 30 = .ok (.iaload, 1) := by decide +kernel
theorem dX5_copy_31 : decode cX5_copy 31 = .ok (.laload, 1) := by decide +kernel
theorem dX5_copy_32 : decode cX5_copy 32 = .ok (.invokevirtual 35, 3) := by decide +kernel
theorem dX5_copy_35 : decode cX5_copy 35 = .ok (.iinc 2 1, 3) := by decide +kernel
theorem dX5_copy_38 : decode cX5_copy 38 = .ok (.goto (-32), 3) := by decide +kernel
theorem dX5_copy_41 : decode cX5_copy 41 = .ok (.return_, 1) := by decide +kernel
def VX5_copy_6 (d : Nat) (Q : Out → MS → Prop) : Nat → Nat → Nat → Int → MS → Prop
  | 0, _, _, _, _ => False
  | n + 1, x0, x1, x2, S => S.K x1 = 5 ∧ ((R32 x2 ∧ R32 (S.I x1 3)) ∧ (((S.I x1 3) ≤ x2) → Q (.inl none) S) ∧ (¬ ((S.I x1 3) ≤ x2) → S.K x1 = 5 ∧ ∃ b1, S.R x1 2 = some b1 ∧ ((S.K b1 = 13 ∧ 0 ≤ x2 ∧ x2 < S.N b1) ∧ (S.K x1 = 5 ∧ ∃ b2, S.R x1 1 = some b2 ∧ (S.K x1 = 5 ∧ ∃ b3, S.R x1 2 = some b3 ∧ ((S.K b3 = 13 ∧ 0 ≤ x2 ∧ x2 < S.N b3) ∧ ((S.K b2 = 14 ∧ 0 ≤ (S.I b3 (x2).toNat) ∧ (S.I b3 (x2).toNat) < S.N b2) ∧ (S.K x0 = 5 ∧ Mw hX5_add yX5_add d [vA x0, vI (S.I b1 (x2).toNat), vL (S.J b2 ((S.I b3 (x2).toNat)).toNat)] S (oV (fun S4 => (VX5_copy_6 d Q n) x0 x1 (x2 + 1) S4))))))))))
theorem JX5_copy_6 {d : Nat} {S0 : MS} {Q : Out → MS → Prop} : ∀ (n : Nat) (x0 : Nat) (x1 : Nat) (x2 : Int) (S : MS), VX5_copy_6 d Q n x0 x1 x2 S → Jw FinM RX5 cX5_copy 3 none [] yX5_copy (d + 1) S0 S 6 [(0, vA x0), (1, vA x1), (2, vI x2)] [] Q := by
  intro n
  induction n with
  | zero => intro x0 x1 x2 S h; exact h.elim
  | succ n ih =>
    intro x0 x1 x2 S h
    exact j_iload_n 2 dX5_copy_6 rfl (j_aload_n 1 dX5_copy_7 rfl (j_getI 5 3 f_RX5_23 dX5_copy_8 h (fun h => j_icmp_ge (tgt := 41) dX5_copy_11 (by decide) h (fun h => j_vret rfl dX5_copy_41 h) (fun h => j_aload_n 0 dX5_copy_14 rfl (j_aload_n 1 dX5_copy_15 rfl (j_getR 5 2 f_RX5_19 dX5_copy_16 h (fun b1 h => j_iload_n 2 dX5_copy_19 rfl (j_iald dX5_copy_20 h (fun h => j_aload_n 1 dX5_copy_21 rfl (j_getR 5 1 f_RX5_15 dX5_copy_22 h (fun b2 h => j_aload_n 1 dX5_copy_25 rfl (j_getR 5 2 f_RX5_19 dX5_copy_26 h (fun b3 h => j_iload_n 2 dX5_copy_29 rfl (j_iald dX5_copy_30 h (fun h => j_lald dX5_copy_31 h (fun h => j_callV (rest := []) 5 [vI (S.I b1 (x2).toNat), vL (S.J b2 ((S.I b3 (x2).toNat)).toNat)] k_RX5_35 ⟨w_3_10, w_3_11⟩ ⟨_, _, rfl⟩ (by decide) rfl rfl (Nat.le_of_ble_eq_true rfl) dX5_copy_32 h (kV (fun S4 h => j_iinc 2 (lv2 := [(2, vI (x2 + 1)), (0, vA x0), (1, vA x1)]) dX5_copy_35 rfl (by decide) rfl (j_goto (tgt := 6) dX5_copy_38 (by decide) (j_sub [1, 2, 0] rfl (ih _ _ _ _ h))))) (fun _ _ h => h.elim)))))))))))))))))
def VX5_copy_0 (d : Nat) (Q : Out → MS → Prop) (x0 : Nat) (x1 : Nat) (S : MS) : Prop :=
  S.K x0 = 5 ∧ Mw hX5_clear yX5_clear d [vA x0] S (oV (fun S1 => ∃ n, VX5_copy_6 d Q n x0 x1 0 S1))
theorem JX5_copy_0 {d : Nat} {S0 : MS} {Q : Out → MS → Prop} (x0 : Nat) (x1 : Nat) (S : MS) (h : VX5_copy_0 d Q x0 x1 S) : Jw FinM RX5 cX5_copy 3 none [] yX5_copy (d + 1) S0 S 0 [(0, vA x0), (1, vA x1)] [] Q :=
  j_aload_n 0 dX5_copy_0 rfl (j_callV (rest := []) 5 [] k_RX5_32 ⟨w_3_1, w_3_2⟩ ⟨_, _, rfl⟩ (by decide) rfl rfl (Nat.le_of_ble_eq_true rfl) dX5_copy_1 h (kV (fun S1 h => j_iconst dX5_copy_4 (j_istore_n (lv2 := [(2, vI 0), (0, vA x0), (1, vA x1)]) dX5_copy_5 (by decide) rfl (Exists.elim h (fun n h => j_sub [1, 2, 0] rfl (JX5_copy_6 n _ _ _ _ h)))))) (fun _ _ h => h.elim))
theorem dX5_meetsBoth_0 : decode cX5_meetsBoth 0 = .ok (.iconst 0, 1) := by decide +kernel
theorem dX5_meetsBoth_1 : decode cX5_meetsBoth 1 = .ok (.istore_n 3, 1) := by decide +kernel
theorem dX5_meetsBoth_2 : decode cX5_meetsBoth 2 = .ok (.iload_n 3, 1) := by decide +kernel
theorem dX5_meetsBoth_3 : decode cX5_meetsBoth 3 = .ok (.aload_n 0, 1) := by decide +kernel
theorem dX5_meetsBoth_4 : decode cX5_meetsBoth 4 = .ok (.getfield 23, 3) := by decide +kernel
theorem dX5_meetsBoth_7 : decode cX5_meetsBoth 7 = .ok (.if_icmp .ge 55, 3) := by decide +kernel
theorem dX5_meetsBoth_10 : decode cX5_meetsBoth 10 = .ok (.aload_n 0, 1) := by decide +kernel
theorem dX5_meetsBoth_11 : decode cX5_meetsBoth 11 = .ok (.getfield 19, 3) := by decide +kernel
theorem dX5_meetsBoth_14 : decode cX5_meetsBoth 14 = .ok (.iload_n 3, 1) := by decide +kernel
theorem dX5_meetsBoth_15 : decode cX5_meetsBoth 15 = .ok (.iaload, 1) := by decide +kernel
theorem dX5_meetsBoth_16 : decode cX5_meetsBoth 16 = .ok (.istore 4, 2) := by decide +kernel
theorem dX5_meetsBoth_18 : decode cX5_meetsBoth 18 = .ok (.iload 4, 2) := by decide +kernel
theorem dX5_meetsBoth_20 : decode cX5_meetsBoth 20 = .ok (.aload_n 1, 1) := by decide +kernel
theorem dX5_meetsBoth_21 : decode cX5_meetsBoth 21 = .ok (.arraylength, 1) := by decide +kernel
theorem dX5_meetsBoth_22 : decode cX5_meetsBoth 22 = .ok (.if_icmp .ge 34, 3) := by decide +kernel
theorem dX5_meetsBoth_25 : decode cX5_meetsBoth 25 = .ok (.iload 4, 2) := by decide +kernel
theorem dX5_meetsBoth_27 : decode cX5_meetsBoth 27 = .ok (.aload_n 2, 1) := by decide +kernel
theorem dX5_meetsBoth_28 : decode cX5_meetsBoth 28 = .ok (.arraylength, 1) := by decide +kernel
theorem dX5_meetsBoth_29 : decode cX5_meetsBoth 29 = .ok (.if_icmp .ge 27, 3) := by decide +kernel
theorem dX5_meetsBoth_32 : decode cX5_meetsBoth 32 = .ok (.aload_n 0, 1) := by decide +kernel
theorem dX5_meetsBoth_33 : decode cX5_meetsBoth 33 = .ok (.getfield 15, 3) := by decide +kernel
theorem dX5_meetsBoth_36 : decode cX5_meetsBoth 36 = .ok (.iload 4, 2) := by decide +kernel
theorem dX5_meetsBoth_38 : decode cX5_meetsBoth 38 = .ok (.laload, 1) := by decide +kernel
theorem dX5_meetsBoth_39 : decode cX5_meetsBoth 39 = .ok (.aload_n 1, 1) := by decide +kernel
theorem dX5_meetsBoth_40 : decode cX5_meetsBoth 40 = .ok (.iload 4, 2) := by decide +kernel
theorem dX5_meetsBoth_42 : decode cX5_meetsBoth 42 = .ok (.laload, 1) := by decide +kernel
theorem dX5_meetsBoth_43 : decode cX5_meetsBoth 43 = .ok (.land, 1) := by decide +kernel
theorem dX5_meetsBoth_44 : decode cX5_meetsBoth 44 = .ok (.aload_n 2, 1) := by decide +kernel
theorem dX5_meetsBoth_45 : decode cX5_meetsBoth 45 = .ok (.iload 4, 2) := by decide +kernel
theorem dX5_meetsBoth_47 : decode cX5_meetsBoth 47 = .ok (.laload, 1) := by decide +kernel
theorem dX5_meetsBoth_48 : decode cX5_meetsBoth 48 = .ok (.land, 1) := by decide +kernel
theorem dX5_meetsBoth_49 : decode cX5_meetsBoth 49 = .ok (.lconst 0, 1) := by decide +kernel
theorem dX5_meetsBoth_50 : decode cX5_meetsBoth 50 = .ok (.lcmp, 1) := by decide +kernel
theorem dX5_meetsBoth_51 : decode cX5_meetsBoth 51 = .ok (.ifCond .eq 5, 3) := by decide +kernel
theorem dX5_meetsBoth_54 : decode cX5_meetsBoth 54 = .ok (.iconst 1, 1) := by decide +kernel
theorem dX5_meetsBoth_55 : decode cX5_meetsBoth 55 = .ok (.ireturn, 1) := by decide +kernel
theorem dX5_meetsBoth_56 : decode cX5_meetsBoth 56 = .ok (.iinc 3 1, 3) := by decide +kernel
theorem dX5_meetsBoth_59 : decode cX5_meetsBoth 59 = .ok (.goto (-57), 3) := by decide +kernel
theorem dX5_meetsBoth_62 : decode cX5_meetsBoth 62 = .ok (.iconst 0, 1) := by decide +kernel
theorem dX5_meetsBoth_63 : decode cX5_meetsBoth 63 = .ok (.ireturn, 1) := by decide +kernel
def VX5_meetsBoth_56 (d : Nat) (c2 : Nat → Nat → Nat → Int → MS → Prop) (Q : Out → MS → Prop) (x0 : Nat) (x1 : Nat) (x2 : Nat) (x3 : Int) (S : MS) : Prop :=
  c2 x0 x1 x2 (x3 + 1) S
theorem JX5_meetsBoth_56 {d : Nat} {c2 : Nat → Nat → Nat → Int → MS → Prop} {S0 : MS} {Q : Out → MS → Prop} (hc2 : ∀ (x0 : Nat) (x1 : Nat) (x2 : Nat) (x3 : Int) (S : MS), c2 x0 x1 x2 x3 S → Jw FinM RX5 cX5_meetsBoth 5 (some .boolean) [] yX5_meetsBoth (d + 1) S0 S 2 [(0, vA x0), (1, vA x1), (2, vA x2), (3, vI x3)] [] Q) (x0 : Nat) (x1 : Nat) (x2 : Nat) (x3 : Int) (S : MS) (h : VX5_meetsBoth_56 d c2 Q x0 x1 x2 x3 S) : Jw FinM RX5 cX5_meetsBoth 5 (some .boolean) [] yX5_meetsBoth (d + 1) S0 S 56 [(0, vA x0), (1, vA x1), (2, vA x2), (3, vI x3)] [] Q :=
  j_iinc 3 (lv2 := [(3, vI (x3 + 1)), (0, vA x0), (1, vA x1), (2, vA x2)]) dX5_meetsBoth_56 rfl (by decide) rfl (j_goto (tgt := 2) dX5_meetsBoth_59 (by decide) (j_sub [1, 2, 3, 0] rfl (hc2 _ _ _ _ _ h)))
def VX5_meetsBoth_2 (d : Nat) (Q : Out → MS → Prop) : Nat → Nat → Nat → Nat → Int → MS → Prop
  | 0, _, _, _, _, _ => False
  | n + 1, x0, x1, x2, x3, S => S.K x0 = 5 ∧ ((R32 x3 ∧ R32 (S.I x0 3)) ∧ (((S.I x0 3) ≤ x3) → (0 = 0 ∨ 0 = 1) ∧ Q (.inl (some (vI 0))) S) ∧ (¬ ((S.I x0 3) ≤ x3) → S.K x0 = 5 ∧ ∃ b1, S.R x0 2 = some b1 ∧ ((S.K b1 = 13 ∧ 0 ≤ x3 ∧ x3 < S.N b1) ∧ ((12 ≤ S.K x1 ∧ S.K x1 < 21) ∧ ((R32 (S.I b1 (x3).toNat) ∧ R32 ((S.N x1 : Int))) ∧ ((((S.N x1 : Int)) ≤ (S.I b1 (x3).toNat)) → VX5_meetsBoth_56 d (VX5_meetsBoth_2 d Q n) Q x0 x1 x2 x3 S) ∧ (¬ (((S.N x1 : Int)) ≤ (S.I b1 (x3).toNat)) → (12 ≤ S.K x2 ∧ S.K x2 < 21) ∧ ((R32 (S.I b1 (x3).toNat) ∧ R32 ((S.N x2 : Int))) ∧ ((((S.N x2 : Int)) ≤ (S.I b1 (x3).toNat)) → VX5_meetsBoth_56 d (VX5_meetsBoth_2 d Q n) Q x0 x1 x2 x3 S) ∧ (¬ (((S.N x2 : Int)) ≤ (S.I b1 (x3).toNat)) → S.K x0 = 5 ∧ ∃ b2, S.R x0 1 = some b2 ∧ ((S.K b2 = 14 ∧ 0 ≤ (S.I b1 (x3).toNat) ∧ (S.I b1 (x3).toNat) < S.N b2) ∧ ((S.K x1 = 14 ∧ 0 ≤ (S.I b1 (x3).toNat) ∧ (S.I b1 (x3).toNat) < S.N x1) ∧ ((S.K x2 = 14 ∧ 0 ≤ (S.I b1 (x3).toNat) ∧ (S.I b1 (x3).toNat) < S.N x2) ∧ (R32 (lCmp (((S.J b2 ((S.I b1 (x3).toNat)).toNat) &&& (S.J x1 ((S.I b1 (x3).toNat)).toNat)) &&& (S.J x2 ((S.I b1 (x3).toNat)).toNat)) (0#64)) ∧ (((lCmp (((S.J b2 ((S.I b1 (x3).toNat)).toNat) &&& (S.J x1 ((S.I b1 (x3).toNat)).toNat)) &&& (S.J x2 ((S.I b1 (x3).toNat)).toNat)) (0#64)) = 0) → VX5_meetsBoth_56 d (VX5_meetsBoth_2 d Q n) Q x0 x1 x2 x3 S) ∧ (¬ ((lCmp (((S.J b2 ((S.I b1 (x3).toNat)).toNat) &&& (S.J x1 ((S.I b1 (x3).toNat)).toNat)) &&& (S.J x2 ((S.I b1 (x3).toNat)).toNat)) (0#64)) = 0) → (1 = 0 ∨ 1 = 1) ∧ Q (.inl (some (vI 1))) S)))))))))))))
theorem JX5_meetsBoth_2 {d : Nat} {S0 : MS} {Q : Out → MS → Prop} : ∀ (n : Nat) (x0 : Nat) (x1 : Nat) (x2 : Nat) (x3 : Int) (S : MS), VX5_meetsBoth_2 d Q n x0 x1 x2 x3 S → Jw FinM RX5 cX5_meetsBoth 5 (some .boolean) [] yX5_meetsBoth (d + 1) S0 S 2 [(0, vA x0), (1, vA x1), (2, vA x2), (3, vI x3)] [] Q := by
  intro n
  induction n with
  | zero => intro x0 x1 x2 x3 S h; exact h.elim
  | succ n ih =>
    intro x0 x1 x2 x3 S h
    exact j_iload_n 3 dX5_meetsBoth_2 rfl (j_aload_n 0 dX5_meetsBoth_3 rfl (j_getI 5 3 f_RX5_23 dX5_meetsBoth_4 h (fun h => j_icmp_ge (tgt := 62) dX5_meetsBoth_7 (by decide) h (fun h => j_iconst dX5_meetsBoth_62 (j_zret rfl dX5_meetsBoth_63 h)) (fun h => j_aload_n 0 dX5_meetsBoth_10 rfl (j_getR 5 2 f_RX5_19 dX5_meetsBoth_11 h (fun b1 h => j_iload_n 3 dX5_meetsBoth_14 rfl (j_iald dX5_meetsBoth_15 h (fun h => j_istore (lv2 := [(4, vI (S.I b1 (x3).toNat)), (0, vA x0), (1, vA x1), (2, vA x2), (3, vI x3)]) dX5_meetsBoth_16 (by decide) rfl (j_iload 0 dX5_meetsBoth_18 rfl (j_aload_n 2 dX5_meetsBoth_20 rfl (j_alen dX5_meetsBoth_21 h (fun h => j_icmp_ge (tgt := 56) dX5_meetsBoth_22 (by decide) h (fun h => j_sub [1, 2, 3, 4] rfl (JX5_meetsBoth_56 ih _ _ _ _ _ h)) (fun h => j_iload 0 dX5_meetsBoth_25 rfl (j_aload_n 3 dX5_meetsBoth_27 rfl (j_alen dX5_meetsBoth_28 h (fun h => j_icmp_ge (tgt := 56) dX5_meetsBoth_29 (by decide) h (fun h => j_sub [1, 2, 3, 4] rfl (JX5_meetsBoth_56 ih _ _ _ _ _ h)) (fun h => j_aload_n 1 dX5_meetsBoth_32 rfl (j_getR 5 1 f_RX5_15 dX5_meetsBoth_33 h (fun b2 h => j_iload 0 dX5_meetsBoth_36 rfl (j_lald dX5_meetsBoth_38 h (fun h => j_aload_n 2 dX5_meetsBoth_39 rfl (j_iload 0 dX5_meetsBoth_40 rfl (j_lald dX5_meetsBoth_42 h (fun h => j_land dX5_meetsBoth_43 (j_aload_n 3 dX5_meetsBoth_44 rfl (j_iload 0 dX5_meetsBoth_45 rfl (j_lald dX5_meetsBoth_47 h (fun h => j_land dX5_meetsBoth_48 (j_lconst dX5_meetsBoth_49 rfl (j_lcmp dX5_meetsBoth_50 (j_if_eq (tgt := 56) dX5_meetsBoth_51 (by decide) h (fun h => j_sub [1, 2, 3, 4] rfl (JX5_meetsBoth_56 ih _ _ _ _ _ h)) (fun h => j_iconst dX5_meetsBoth_54 (j_zret rfl dX5_meetsBoth_55 h)))))))))))))))))))))))))))))))))
def VX5_meetsBoth_0 (d : Nat) (Q : Out → MS → Prop) (x0 : Nat) (x1 : Nat) (x2 : Nat) (S : MS) : Prop :=
  ∃ n, VX5_meetsBoth_2 d Q n x0 x1 x2 0 S
theorem JX5_meetsBoth_0 {d : Nat} {S0 : MS} {Q : Out → MS → Prop} (x0 : Nat) (x1 : Nat) (x2 : Nat) (S : MS) (h : VX5_meetsBoth_0 d Q x0 x1 x2 S) : Jw FinM RX5 cX5_meetsBoth 5 (some .boolean) [] yX5_meetsBoth (d + 1) S0 S 0 [(0, vA x0), (1, vA x1), (2, vA x2)] [] Q :=
  j_iconst dX5_meetsBoth_0 (j_istore_n (lv2 := [(3, vI 0), (0, vA x0), (1, vA x1), (2, vA x2)]) dX5_meetsBoth_1 (by decide) rfl (Exists.elim h (fun n h => j_sub [1, 2, 3, 0] rfl (JX5_meetsBoth_2 n _ _ _ _ _ h))))
theorem dX5_numberAt_0 : decode cX5_numberAt 0 = .ok (.iload_n 1, 1) := by decide +kernel
theorem dX5_numberAt_1 : decode cX5_numberAt 1 = .ok (.istore_n 2, 1) := by decide +kernel
theorem dX5_numberAt_2 : decode cX5_numberAt 2 = .ok (.iconst 0, 1) := by decide +kernel
theorem dX5_numberAt_3 : decode cX5_numberAt 3 = .ok (.istore_n 3, 1) := by decide +kernel
theorem dX5_numberAt_4 : decode cX5_numberAt 4 = .ok (.iload_n 3, 1) := by decide +kernel
theorem dX5_numberAt_5 : decode cX5_numberAt 5 = .ok (.aload_n 0, 1) := by decide +kernel
theorem dX5_numberAt_6 : decode cX5_numberAt 6 = .ok (.getfield 23, 3) := by decide +kernel
theorem dX5_numberAt_9 : decode cX5_numberAt 9 = .ok (.if_icmp .ge 61, 3) := by decide +kernel
theorem dX5_numberAt_12 : decode cX5_numberAt 12 = .ok (.iload_n 2, 1) := by decide +kernel
theorem dX5_numberAt_13 : decode cX5_numberAt 13 = .ok (.ifCond .lt 57, 3) := by decide +kernel
theorem dX5_numberAt_16 : decode cX5_numberAt 16 = .ok (.aload_n 0, 1) := by decide +kernel
theorem dX5_numberAt_17 : decode cX5_numberAt 17 = .ok (.getfield 15, 3) := by decide +kernel
theorem dX5_numberAt_20 : decode cX5_numberAt 20 = .ok (.aload_n 0, 1) := by decide +kernel
theorem dX5_numberAt_21 : decode cX5_numberAt 21 = .ok (.getfield 19, 3) := by decide +kernel
theorem dX5_numberAt_24 : decode cX5_numberAt 24 = .ok (.iload_n 3, 1) := by decide +kernel
theorem dX5_numberAt_25 : decode cX5_numberAt 25 = .ok (.iaload, 1) := by decide +kernel
theorem dX5_numberAt_26 : decode cX5_numberAt 26 = .ok (.laload, 1) := by decide +kernel
theorem dX5_numberAt_27 : decode cX5_numberAt 27 = .ok (.lstore 4, 2) := by decide +kernel
theorem dX5_numberAt_29 : decode cX5_numberAt 29 = .ok (.lload 4, 2) := by decide +kernel
theorem dX5_numberAt_31 : decode cX5_numberAt 31 = .ok (.invokestatic 26, 3) := by decide +kernel
theorem dX5_numberAt_34 : decode cX5_numberAt 34 = .ok (.istore 6, 2) := by decide +kernel
theorem dX5_numberAt_36 : decode cX5_numberAt 36 = .ok (.iload_n 2, 1) := by decide +kernel
theorem dX5_numberAt_37 : decode cX5_numberAt 37 = .ok (.iload 6, 2) := by decide +kernel
theorem dX5_numberAt_39 : decode cX5_numberAt 39 = .ok (.if_icmp .ge 20, 3) := by decide +kernel
theorem dX5_numberAt_42 : decode cX5_numberAt 42 = .ok (.aload_n 0, 1) := by decide +kernel
theorem dX5_numberAt_43 : decode cX5_numberAt 43 = .ok (.getfield 19, 3) := by decide +kernel
theorem dX5_numberAt_46 : decode cX5_numberAt 46 = .ok (.iload_n 3, 1) := by decide +kernel
theorem dX5_numberAt_47 : decode cX5_numberAt 47 = .ok (.iaload, 1) := by decide +kernel
theorem dX5_numberAt_48 : decode cX5_numberAt 48 = .ok (.bipush 64, 2) := by decide +kernel
theorem dX5_numberAt_50 : decode cX5_numberAt 50 = .ok (.imul, 1) := by decide +kernel
theorem dX5_numberAt_51 : decode cX5_numberAt 51 = .ok (.lload 4, 2) := by decide +kernel
theorem dX5_numberAt_53 : decode cX5_numberAt 53 = .ok (.iload_n 2, 1) := by decide +kernel
theorem dX5_numberAt_54 : decode cX5_numberAt 54 = .ok (.invokestatic 45, 3) := by decide +kernel
theorem dX5_numberAt_57 : decode cX5_numberAt 57 = .ok (.iadd, 1) := by decide +kernel
theorem dX5_numberAt_58 : decode cX5_numberAt 58 = .ok (.ireturn, 1) := by decide +kernel
theorem dX5_numberAt_59 : decode cX5_numberAt 59 = .ok (.iload_n 2, 1) := by decide +kernel
theorem dX5_numberAt_60 : decode cX5_numberAt 60 = .ok (.iload 6, 2) := by decide +kernel
theorem dX5_numberAt_62 : decode cX5_numberAt 62 = .ok (.isub, 1) := by decide +kernel
theorem dX5_numberAt_63 : decode cX5_numberAt 63 = .ok (.istore_n 2, 1) := by decide +kernel
theorem dX5_numberAt_64 : decode cX5_numberAt 64 = .ok (.iinc 3 1, 3) := by decide +kernel
theorem dX5_numberAt_67 : decode cX5_numberAt 67 = .ok (.goto (-63), 3) := by decide +kernel
theorem dX5_numberAt_70 : decode cX5_numberAt 70 = .ok (.iconst (-1), 1) := by decide +kernel
theorem dX5_numberAt_71 : decode cX5_numberAt 71 = .ok (.ireturn, 1) := by decide +kernel
def VX5_numberAt_4 (d : Nat) (Q : Out → MS → Prop) : Nat → Nat → Int → Int → MS → Prop
  | 0, _, _, _, _ => False
  | n + 1, x0, x2, x3, S => S.K x0 = 5 ∧ ((R32 x3 ∧ R32 (S.I x0 3)) ∧ (((S.I x0 3) ≤ x3) → Q (.inl (some (vI ((-1))))) S) ∧ (¬ ((S.I x0 3) ≤ x3) → R32 x2 ∧ ((x2 < 0) → Q (.inl (some (vI ((-1))))) S) ∧ (¬ (x2 < 0) → S.K x0 = 5 ∧ ∃ b1, S.R x0 1 = some b1 ∧ (S.K x0 = 5 ∧ ∃ b2, S.R x0 2 = some b2 ∧ ((S.K b2 = 13 ∧ 0 ≤ x3 ∧ x3 < S.N b2) ∧ ((S.K b1 = 14 ∧ 0 ≤ (S.I b2 (x3).toNat) ∧ (S.I b2 (x3).toNat) < S.N b1) ∧ (Mw hJ13_bitCount_95d88 yJ13_bitCount_95d88 d [vL (S.J b1 ((S.I b2 (x3).toNat)).toNat)] S (oI (fun r3 S3 => (R32 x2 ∧ R32 r3) ∧ ((r3 ≤ x2) → (VX5_numberAt_4 d Q n) x0 (x2 - r3) (x3 + 1) S3) ∧ (¬ (r3 ≤ x2) → S3.K x0 = 5 ∧ ∃ b4, S3.R x0 2 = some b4 ∧ ((S3.K b4 = 13 ∧ 0 ≤ x3 ∧ x3 < S3.N b4) ∧ (Mw hX5_bitAt yX5_bitAt d [vL (S.J b1 ((S.I b2 (x3).toNat)).toNat), vI x2] S3 (oI (fun r5 S5 => Q (.inl (some (vI (((S3.I b4 (x3).toNat) * 64) + r5)))) S5))))))))))))))
theorem JX5_numberAt_4 {d : Nat} {S0 : MS} {Q : Out → MS → Prop} : ∀ (n : Nat) (x0 : Nat) (x2 : Int) (x3 : Int) (S : MS), VX5_numberAt_4 d Q n x0 x2 x3 S → Jw FinM RX5 cX5_numberAt 7 (some .int) [] yX5_numberAt (d + 1) S0 S 4 [(0, vA x0), (2, vI x2), (3, vI x3)] [] Q := by
  intro n
  induction n with
  | zero => intro x0 x2 x3 S h; exact h.elim
  | succ n ih =>
    intro x0 x2 x3 S h
    exact j_iload_n 2 dX5_numberAt_4 rfl (j_aload_n 0 dX5_numberAt_5 rfl (j_getI 5 3 f_RX5_23 dX5_numberAt_6 h (fun h => j_icmp_ge (tgt := 70) dX5_numberAt_9 (by decide) h (fun h => j_iconst dX5_numberAt_70 (j_iret rfl dX5_numberAt_71 h)) (fun h => j_iload_n 1 dX5_numberAt_12 rfl (j_if_lt (tgt := 70) dX5_numberAt_13 (by decide) h (fun h => j_iconst dX5_numberAt_70 (j_iret rfl dX5_numberAt_71 h)) (fun h => j_aload_n 0 dX5_numberAt_16 rfl (j_getR 5 1 f_RX5_15 dX5_numberAt_17 h (fun b1 h => j_aload_n 0 dX5_numberAt_20 rfl (j_getR 5 2 f_RX5_19 dX5_numberAt_21 h (fun b2 h => j_iload_n 2 dX5_numberAt_24 rfl (j_iald dX5_numberAt_25 h (fun h => j_lald dX5_numberAt_26 h (fun h => j_lstore (lv2 := [(4, vL (S.J b1 ((S.I b2 (x3).toNat)).toNat)), (0, vA x0), (2, vI x2), (3, vI x3)]) dX5_numberAt_27 (by decide) rfl (j_lload 0 dX5_numberAt_29 rfl (j_callS (rest := []) [vL (S.J b1 ((S.I b2 (x3).toNat)).toNat)] k_RX5_26 w_3_14 rfl rfl (Nat.le_of_ble_eq_true rfl) dX5_numberAt_31 h (kI (fun r3 S3 h => j_istore (lv2 := [(6, vI r3), (4, vL (S.J b1 ((S.I b2 (x3).toNat)).toNat)), (0, vA x0), (2, vI x2), (3, vI x3)]) dX5_numberAt_34 (by decide) rfl (j_iload_n 3 dX5_numberAt_36 rfl (j_iload 0 dX5_numberAt_37 rfl (j_icmp_ge (tgt := 59) dX5_numberAt_39 (by decide) h (fun h => j_iload_n 3 dX5_numberAt_59 rfl (j_iload 0 dX5_numberAt_60 rfl (j_isub dX5_numberAt_62 (j_istore_n (lv2 := [(2, vI (x2 - r3)), (6, vI r3), (4, vL (S.J b1 ((S.I b2 (x3).toNat)).toNat)), (0, vA x0), (3, vI x3)]) dX5_numberAt_63 (by decide) rfl (j_iinc 4 (lv2 := [(3, vI (x3 + 1)), (2, vI (x2 - r3)), (6, vI r3), (4, vL (S.J b1 ((S.I b2 (x3).toNat)).toNat)), (0, vA x0)]) dX5_numberAt_64 rfl (by decide) rfl (j_goto (tgt := 4) dX5_numberAt_67 (by decide) (j_sub [4, 1, 0] rfl (ih _ _ _ _ h)))))))) (fun h => j_aload_n 2 dX5_numberAt_42 rfl (j_getR 5 2 f_RX5_19 dX5_numberAt_43 h (fun b4 h => j_iload_n 4 dX5_numberAt_46 rfl (j_iald dX5_numberAt_47 h (fun h => j_bipush dX5_numberAt_48 rfl (j_imul dX5_numberAt_50 (j_lload 1 dX5_numberAt_51 rfl (j_iload_n 3 dX5_numberAt_53 rfl (j_callS (rest := [vI ((S3.I b4 (x3).toNat) * 64)]) [vL (S.J b1 ((S.I b2 (x3).toNat)).toNat), vI x2] k_RX5_45 w_3_71 rfl rfl (Nat.le_of_ble_eq_true rfl) dX5_numberAt_54 h (kI (fun r5 S5 h => j_iadd dX5_numberAt_57 (j_iret rfl dX5_numberAt_58 h))) (fun _ _ h => h.elim))))))))))))))) (fun _ _ h => h.elim))))))))))))))))
def VX5_numberAt_0 (d : Nat) (Q : Out → MS → Prop) (x0 : Nat) (x1 : Int) (S : MS) : Prop :=
  ∃ n, VX5_numberAt_4 d Q n x0 x1 0 S
theorem JX5_numberAt_0 {d : Nat} {S0 : MS} {Q : Out → MS → Prop} (x0 : Nat) (x1 : Int) (S : MS) (h : VX5_numberAt_0 d Q x0 x1 S) : Jw FinM RX5 cX5_numberAt 7 (some .int) [] yX5_numberAt (d + 1) S0 S 0 [(0, vA x0), (1, vI x1)] [] Q :=
  j_iload_n 1 dX5_numberAt_0 rfl (j_istore_n (lv2 := [(2, vI x1), (0, vA x0), (1, vI x1)]) dX5_numberAt_1 (by decide) rfl (j_iconst dX5_numberAt_2 (j_istore_n (lv2 := [(3, vI 0), (2, vI x1), (0, vA x0), (1, vI x1)]) dX5_numberAt_3 (by decide) rfl (Exists.elim h (fun n h => j_sub [2, 1, 0] rfl (JX5_numberAt_4 n _ _ _ _ h))))))
theorem dX5_bitAt_0 : decode cX5_bitAt 0 = .ok (.lload_n 0, 1) := by decide +kernel
theorem dX5_bitAt_1 : decode cX5_bitAt 1 = .ok (.lstore_n 3, 1) := by decide +kernel
theorem dX5_bitAt_2 : decode cX5_bitAt 2 = .ok (.iconst 0, 1) := by decide +kernel
theorem dX5_bitAt_3 : decode cX5_bitAt 3 = .ok (.istore 5, 2) := by decide +kernel
theorem dX5_bitAt_5 : decode cX5_bitAt 5 = .ok (.iload 5, 2) := by decide +kernel
theorem dX5_bitAt_7 : decode cX5_bitAt 7 = .ok (.iload_n 2, 1) := by decide +kernel
theorem dX5_bitAt_8 : decode cX5_bitAt 8 = .ok (.if_icmp .ge 15, 3) := by decide +kernel
theorem dX5_bitAt_11 : decode cX5_bitAt 11 = .ok (.lload_n 3, 1) := by decide +kernel
theorem dX5_bitAt_12 : decode cX5_bitAt 12 = .ok (.lload_n 3, 1) := by decide +kernel
theorem dX5_bitAt_13 : decode cX5_bitAt 13 = .ok (.lconst 1, 1) := by decide +kernel
theorem dX5_bitAt_14 : decode cX5_bitAt 14 = .ok (.lsub, 1) := by decide +kernel
theorem dX5_bitAt_15 : decode cX5_bitAt 15 = .ok (.land, 1) := by decide +kernel
theorem dX5_bitAt_16 : decode cX5_bitAt 16 = .ok (.lstore_n 3, 1) := by decide +kernel
theorem dX5_bitAt_17 : decode cX5_bitAt 17 = .ok (.iinc 5 1, 3) := by decide +kernel
theorem dX5_bitAt_20 : decode cX5_bitAt 20 = .ok (.goto (-15), 3) := by decide +kernel
theorem dX5_bitAt_23 : decode cX5_bitAt 23 = .ok (.lload_n 3, 1) := by decide +kernel
theorem dX5_bitAt_24 : decode cX5_bitAt 24 = .ok (.lload_n 3, 1) := by decide +kernel
theorem dX5_bitAt_25 : decode cX5_bitAt 25 = .ok (.lneg, 1) := by decide +kernel
theorem dX5_bitAt_26 : decode cX5_bitAt 26 = .ok (.land, 1) := by decide +kernel
theorem dX5_bitAt_27 : decode cX5_bitAt 27 = .ok (.lconst 1, 1) := by decide +kernel
theorem dX5_bitAt_28 : decode cX5_bitAt 28 = .ok (.lsub, 1) := by decide +kernel
theorem dX5_bitAt_29 : decode cX5_bitAt 29 = .ok (.invokestatic 26, 3) := by decide +kernel
theorem dX5_bitAt_32 : decode cX5_bitAt 32 = .ok (.ireturn, 1) := by decide +kernel
def VX5_bitAt_5 (d : Nat) (Q : Out → MS → Prop) : Nat → Int → BitVec 64 → Int → MS → Prop
  | 0, _, _, _, _ => False
  | n + 1, x2, x3, x5, S => (R32 x5 ∧ R32 x2) ∧ ((x2 ≤ x5) → Mw hJ13_bitCount_95d88 yJ13_bitCount_95d88 d [vL ((x3 &&& (-x3)) - (1#64))] S (oI (fun r1 S1 => Q (.inl (some (vI r1))) S1))) ∧ (¬ (x2 ≤ x5) → (VX5_bitAt_5 d Q n) x2 (x3 &&& (x3 - (1#64))) (x5 + 1) S)
theorem JX5_bitAt_5 {d : Nat} {S0 : MS} {Q : Out → MS → Prop} : ∀ (n : Nat) (x2 : Int) (x3 : BitVec 64) (x5 : Int) (S : MS), VX5_bitAt_5 d Q n x2 x3 x5 S → Jw FinM RX5 cX5_bitAt 6 (some .int) [] yX5_bitAt (d + 1) S0 S 5 [(2, vI x2), (3, vL x3), (5, vI x5)] [] Q := by
  intro n
  induction n with
  | zero => intro x2 x3 x5 S h; exact h.elim
  | succ n ih =>
    intro x2 x3 x5 S h
    exact j_iload 2 dX5_bitAt_5 rfl (j_iload_n 0 dX5_bitAt_7 rfl (j_icmp_ge (tgt := 23) dX5_bitAt_8 (by decide) h (fun h => j_lload_n 1 dX5_bitAt_23 rfl (j_lload_n 1 dX5_bitAt_24 rfl (j_lneg dX5_bitAt_25 (j_land dX5_bitAt_26 (j_lconst dX5_bitAt_27 rfl (j_lsub dX5_bitAt_28 (j_callS (rest := []) [vL ((x3 &&& (-x3)) - (1#64))] k_RX5_26 w_3_14 rfl rfl (Nat.le_of_ble_eq_true rfl) dX5_bitAt_29 h (kI (fun r1 S1 h => j_iret rfl dX5_bitAt_32 h)) (fun _ _ h => h.elim)))))))) (fun h => j_lload_n 1 dX5_bitAt_11 rfl (j_lload_n 1 dX5_bitAt_12 rfl (j_lconst dX5_bitAt_13 rfl (j_lsub dX5_bitAt_14 (j_land dX5_bitAt_15 (j_lstore_n (lv2 := [(3, vL (x3 &&& (x3 - (1#64)))), (2, vI x2), (5, vI x5)]) dX5_bitAt_16 (by decide) rfl (j_iinc 2 (lv2 := [(5, vI (x5 + 1)), (3, vL (x3 &&& (x3 - (1#64)))), (2, vI x2)]) dX5_bitAt_17 rfl (by decide) rfl (j_goto (tgt := 5) dX5_bitAt_20 (by decide) (j_sub [2, 1, 0] rfl (ih _ _ _ _ h))))))))))))
def VX5_bitAt_0 (d : Nat) (Q : Out → MS → Prop) (x0 : BitVec 64) (x2 : Int) (S : MS) : Prop :=
  ∃ n, VX5_bitAt_5 d Q n x2 x0 0 S
theorem JX5_bitAt_0 {d : Nat} {S0 : MS} {Q : Out → MS → Prop} (x0 : BitVec 64) (x2 : Int) (S : MS) (h : VX5_bitAt_0 d Q x0 x2 S) : Jw FinM RX5 cX5_bitAt 6 (some .int) [] yX5_bitAt (d + 1) S0 S 0 [(0, vL x0), (2, vI x2)] [] Q :=
  j_lload_n 0 dX5_bitAt_0 rfl (j_lstore_n (lv2 := [(3, vL x0), (0, vL x0), (2, vI x2)]) dX5_bitAt_1 (by decide) rfl (j_iconst dX5_bitAt_2 (j_istore (lv2 := [(5, vI 0), (3, vL x0), (0, vL x0), (2, vI x2)]) dX5_bitAt_3 (by decide) rfl (Exists.elim h (fun n h => j_sub [3, 1, 0] rfl (JX5_bitAt_5 n _ _ _ _ h))))))
