theorem dL_shed_0 : decode cL_shed 0 = .ok (.aload_n 1, 1) := by decide +kernel
theorem dL_shed_1 : decode cL_shed 1 = .ok (.iconst 0, 1) := by decide +kernel
theorem dL_shed_2 : decode cL_shed 2 = .ok (.aload_n 0, 1) := by decide +kernel
theorem dL_shed_3 : decode cL_shed 3 = .ok (.invokevirtual 7, 3) := by decide +kernel
theorem dL_shed_6 : decode cL_shed 6 = .ok (.i2l, 1) := by decide +kernel
theorem dL_shed_7 : decode cL_shed 7 = .ok (.lastore, 1) := by decide +kernel
theorem dL_shed_8 : decode cL_shed 8 = .ok (.goto 9, 3) := by decide +kernel
theorem dL_shed_11 : decode cL_shed 11 = .ok (.astore_n 2, 1) := by decide +kernel
theorem dL_shed_12 : decode cL_shed 12 = .ok (.iconst 1, 1) := by decide +kernel
theorem dL_shed_13 : decode cL_shed 13 = .ok (.ireturn, 1) := by decide +kernel
theorem dL_shed_14 : decode cL_shed 14 = .ok (.astore_n 2, 1) := by decide +kernel
theorem dL_shed_15 : decode cL_shed 15 = .ok (.iconst 2, 1) := by decide +kernel
theorem dL_shed_16 : decode cL_shed 16 = .ok (.ireturn, 1) := by decide +kernel
theorem dL_shed_17 : decode cL_shed 17 = .ok (.iconst 0, 1) := by decide +kernel
theorem dL_shed_18 : decode cL_shed 18 = .ok (.ireturn, 1) := by decide +kernel
def VL_shed_0 (d : Nat) (Q : Out → MS → Prop) (x0 : Nat) (x1 : Nat) (S : MS) : Prop :=
  S.K x0 = 10 ∧ Mw hX10_shed yX10_shed d [vA x0] S (xI (fun r1 S1 => (S1.K x1 = 14 ∧ 0 ≤ (0 : Int) ∧ (0 : Int) < S1.N x1) ∧ (Q (.inl (some (vI 0))) (S1.setJ x1 ((0 : Int)).toNat (i2L r1)))) (fun E S9 => (E = "java/lang/IllegalArgumentException" ∧ Q (.inl (some (vI 1))) S9) ∨ (E = "java/lang/UnsupportedOperationException" ∧ Q (.inl (some (vI 2))) S9)))
theorem JL_shed_0 {d : Nat} {S0 : MS} {Q : Out → MS → Prop} (x0 : Nat) (x1 : Nat) (S : MS) (h : VL_shed_0 d Q x0 x1 S) : Jw FinM RL cL_shed 3 (some .int) [(0, 8, 11, 13), (0, 8, 14, 15)] yL_shed (d + 1) S0 S 0 [(0, vA x0), (1, vA x1)] [] Q :=
  j_aload_n 1 dL_shed_0 rfl (j_iconst dL_shed_1 (j_aload_n 0 dL_shed_2 rfl (j_callV (rest := [vI 0, vA x1]) 10 [] k_RL_7 ⟨w_4_32, w_4_33⟩ ⟨_, _, rfl⟩ (by decide) rfl rfl (Nat.le_of_ble_eq_true rfl) dL_shed_3 h (kI (fun r1 S1 h => j_i2l dL_shed_6 (j_last dL_shed_7 h (fun h => j_goto (tgt := 17) dL_shed_8 (by decide) (j_iconst dL_shed_17 (j_iret rfl dL_shed_18 h)))))) (fun E S9 h => by
      rcases h with ⟨rfl, h⟩ | ⟨rfl, h⟩
      · exact jx_catchR (n := 1) (i := 2) [] ⟨0, 8, 11, 13⟩ [⟨0, 8, 14, 15⟩] rfl (List.forall_mem_nil _) (by decide) (by decide) w_4_29 (List.mem_of_getElem? (i := 0) rfl) rfl (by decide) (Or.inl ⟨2, rfl, dL_shed_11, dL_shed_12, dL_shed_13⟩) h
      · exact jx_catchR (n := 2) (i := 2) [⟨0, 8, 11, 13⟩] ⟨0, 8, 14, 15⟩ [] rfl (List.forall_mem_cons.mpr ⟨⟨by decide, "java/lang/IllegalArgumentException", w_4_29, List.mem_of_getElem? (i := 12) rfl⟩, (List.forall_mem_nil _)⟩) (by decide) (by decide) w_4_30 (List.mem_of_getElem? (i := 3) rfl) rfl (by decide) (Or.inl ⟨2, rfl, dL_shed_14, dL_shed_15, dL_shed_16⟩) h))))
theorem ML_shed {d : Nat} {x0 : Nat} {x1 : Nat} {S : MS} {Q : Out → MS → Prop} (h : VL_shed_0 d Q x0 x1 S) : Mw hL_shed yL_shed (d + 1) [vA x0, vA x1] S Q := Mw.ofJH (by decide) (Nat.le_of_ble_eq_true rfl) (JL_shed_0 _ _ S h)
theorem dL_things_0 : decode cL_things 0 = .ok (.aload_n 0, 1) := by decide +kernel
theorem dL_things_1 : decode cL_things 1 = .ok (.iload_n 1, 1) := by decide +kernel
theorem dL_things_2 : decode cL_things 2 = .ok (.invokevirtual 17, 3) := by decide +kernel
theorem dL_things_5 : decode cL_things 5 = .ok (.goto 9, 3) := by decide +kernel
theorem dL_things_8 : decode cL_things 8 = .ok (.astore_n 2, 1) := by decide +kernel
theorem dL_things_9 : decode cL_things 9 = .ok (.iconst 1, 1) := by decide +kernel
theorem dL_things_10 : decode cL_things 10 = .ok (.ireturn, 1) := by decide +kernel
theorem dL_things_11 : decode cL_things 11 = .ok (.astore_n 2, 1) := by decide +kernel
theorem dL_things_12 : decode cL_things 12 = .ok (.iconst 2, 1) := by decide +kernel
theorem dL_things_13 : decode cL_things 13 = .ok (.ireturn, 1) := by decide +kernel
theorem dL_things_14 : decode cL_things 14 = .ok (.iconst 0, 1) := by decide +kernel
theorem dL_things_15 : decode cL_things 15 = .ok (.ireturn, 1) := by decide +kernel
def VL_things_0 (d : Nat) (Q : Out → MS → Prop) (x0 : Nat) (x1 : Int) (S : MS) : Prop :=
  S.K x0 = 10 ∧ Mw hX10_things yX10_things d [vA x0, vI x1] S (xV (fun S1 => Q (.inl (some (vI 0))) S1) (fun E S9 => (E = "java/lang/IllegalArgumentException" ∧ Q (.inl (some (vI 1))) S9) ∨ (E = "java/lang/IllegalStateException" ∧ Q (.inl (some (vI 2))) S9)))
theorem JL_things_0 {d : Nat} {S0 : MS} {Q : Out → MS → Prop} (x0 : Nat) (x1 : Int) (S : MS) (h : VL_things_0 d Q x0 x1 S) : Jw FinM RL cL_things 3 (some .int) [(0, 5, 8, 13), (0, 5, 11, 21)] yL_things (d + 1) S0 S 0 [(0, vA x0), (1, vI x1)] [] Q :=
  j_aload_n 0 dL_things_0 rfl (j_iload_n 1 dL_things_1 rfl (j_callV (rest := []) 10 [vI x1] k_RL_17 ⟨w_5_23, w_5_24⟩ ⟨_, _, rfl⟩ (by decide) rfl rfl (Nat.le_of_ble_eq_true rfl) dL_things_2 h (kV (fun S1 h => j_goto (tgt := 14) dL_things_5 (by decide) (j_iconst dL_things_14 (j_iret rfl dL_things_15 h)))) (fun E S9 h => by
      rcases h with ⟨rfl, h⟩ | ⟨rfl, h⟩
      · exact jx_catchR (n := 1) (i := 2) [] ⟨0, 5, 8, 13⟩ [⟨0, 5, 11, 21⟩] rfl (List.forall_mem_nil _) (by decide) (by decide) w_4_29 (List.mem_of_getElem? (i := 0) rfl) rfl (by decide) (Or.inl ⟨2, rfl, dL_things_8, dL_things_9, dL_things_10⟩) h
      · exact jx_catchR (n := 2) (i := 2) [⟨0, 5, 8, 13⟩] ⟨0, 5, 11, 21⟩ [] rfl (List.forall_mem_cons.mpr ⟨⟨by decide, "java/lang/IllegalArgumentException", w_4_29, List.mem_of_getElem? (i := 4) rfl⟩, (List.forall_mem_nil _)⟩) (by decide) (by decide) w_5_21 (List.mem_of_getElem? (i := 1) rfl) rfl (by decide) (Or.inl ⟨2, rfl, dL_things_11, dL_things_12, dL_things_13⟩) h)))
theorem ML_things {d : Nat} {x0 : Nat} {x1 : Int} {S : MS} {Q : Out → MS → Prop} (h : VL_things_0 d Q x0 x1 S) : Mw hL_things yL_things (d + 1) [vA x0, vI x1] S Q := Mw.ofJH (by decide) (Nat.le_of_ble_eq_true rfl) (JL_things_0 _ _ S h)
theorem dL_scale_0 : decode cL_scale 0 = .ok (.aload 4, 2) := by decide +kernel
theorem dL_scale_2 : decode cL_scale 2 = .ok (.iconst 0, 1) := by decide +kernel
theorem dL_scale_3 : decode cL_scale 3 = .ok (.aload_n 0, 1) := by decide +kernel
theorem dL_scale_4 : decode cL_scale 4 = .ok (.iload_n 1, 1) := by decide +kernel
theorem dL_scale_5 : decode cL_scale 5 = .ok (.iload_n 2, 1) := by decide +kernel
theorem dL_scale_6 : decode cL_scale 6 = .ok (.iload_n 3, 1) := by decide +kernel
theorem dL_scale_7 : decode cL_scale 7 = .ok (.invokevirtual 23, 3) := by decide +kernel
theorem dL_scale_10 : decode cL_scale 10 = .ok (.i2l, 1) := by decide +kernel
theorem dL_scale_11 : decode cL_scale 11 = .ok (.lastore, 1) := by decide +kernel
theorem dL_scale_12 : decode cL_scale 12 = .ok (.goto 11, 3) := by decide +kernel
theorem dL_scale_15 : decode cL_scale 15 = .ok (.astore 5, 2) := by decide +kernel
theorem dL_scale_17 : decode cL_scale 17 = .ok (.iconst 1, 1) := by decide +kernel
theorem dL_scale_18 : decode cL_scale 18 = .ok (.ireturn, 1) := by decide +kernel
theorem dL_scale_19 : decode cL_scale 19 = .ok (.astore 5, 2) := by decide +kernel
theorem dL_scale_21 : decode cL_scale 21 = .ok (.iconst 2, 1) := by decide +kernel
theorem dL_scale_22 : decode cL_scale 22 = .ok (.ireturn, 1) := by decide +kernel
theorem dL_scale_23 : decode cL_scale 23 = .ok (.iconst 0, 1) := by decide +kernel
theorem dL_scale_24 : decode cL_scale 24 = .ok (.ireturn, 1) := by decide +kernel
def VL_scale_0 (d : Nat) (Q : Out → MS → Prop) (x0 : Nat) (x1 : Int) (x2 : Int) (x3 : Int) (x4 : Nat) (S : MS) : Prop :=
  S.K x0 = 10 ∧ Mw hX10_scale yX10_scale d [vA x0, vI x1, vI x2, vI x3] S (xI (fun r1 S1 => (S1.K x4 = 14 ∧ 0 ≤ (0 : Int) ∧ (0 : Int) < S1.N x4) ∧ (Q (.inl (some (vI 0))) (S1.setJ x4 ((0 : Int)).toNat (i2L r1)))) (fun E S9 => (E = "java/lang/IllegalArgumentException" ∧ Q (.inl (some (vI 1))) S9) ∨ (E = "java/lang/UnsupportedOperationException" ∧ Q (.inl (some (vI 2))) S9)))
theorem JL_scale_0 {d : Nat} {S0 : MS} {Q : Out → MS → Prop} (x0 : Nat) (x1 : Int) (x2 : Int) (x3 : Int) (x4 : Nat) (S : MS) (h : VL_scale_0 d Q x0 x1 x2 x3 x4 S) : Jw FinM RL cL_scale 6 (some .int) [(0, 12, 15, 13), (0, 12, 19, 15)] yL_scale (d + 1) S0 S 0 [(0, vA x0), (1, vI x1), (2, vI x2), (3, vI x3), (4, vA x4)] [] Q :=
  j_aload 4 dL_scale_0 rfl (j_iconst dL_scale_2 (j_aload_n 0 dL_scale_3 rfl (j_iload_n 1 dL_scale_4 rfl (j_iload_n 2 dL_scale_5 rfl (j_iload_n 3 dL_scale_6 rfl (j_callV (rest := [vI 0, vA x4]) 10 [vI x1, vI x2, vI x3] k_RL_23 ⟨w_5_48, w_5_49⟩ ⟨_, _, rfl⟩ (by decide) rfl rfl (Nat.le_of_ble_eq_true rfl) dL_scale_7 h (kI (fun r1 S1 h => j_i2l dL_scale_10 (j_last dL_scale_11 h (fun h => j_goto (tgt := 23) dL_scale_12 (by decide) (j_iconst dL_scale_23 (j_iret rfl dL_scale_24 h)))))) (fun E S9 h => by
      rcases h with ⟨rfl, h⟩ | ⟨rfl, h⟩
      · exact jx_catchR (n := 1) (i := 5) [] ⟨0, 12, 15, 13⟩ [⟨0, 12, 19, 15⟩] rfl (List.forall_mem_nil _) (by decide) (by decide) w_4_29 (List.mem_of_getElem? (i := 0) rfl) rfl (by decide) (Or.inr ⟨dL_scale_15, dL_scale_17, dL_scale_18⟩) h
      · exact jx_catchR (n := 2) (i := 5) [⟨0, 12, 15, 13⟩] ⟨0, 12, 19, 15⟩ [] rfl (List.forall_mem_cons.mpr ⟨⟨by decide, "java/lang/IllegalArgumentException", w_4_29, List.mem_of_getElem? (i := 12) rfl⟩, (List.forall_mem_nil _)⟩) (by decide) (by decide) w_4_30 (List.mem_of_getElem? (i := 3) rfl) rfl (by decide) (Or.inr ⟨dL_scale_19, dL_scale_21, dL_scale_22⟩) h)))))))
theorem ML_scale {d : Nat} {x0 : Nat} {x1 : Int} {x2 : Int} {x3 : Int} {x4 : Nat} {S : MS} {Q : Out → MS → Prop} (h : VL_scale_0 d Q x0 x1 x2 x3 x4 S) : Mw hL_scale yL_scale (d + 1) [vA x0, vI x1, vI x2, vI x3, vA x4] S Q := Mw.ofJH (by decide) (Nat.le_of_ble_eq_true rfl) (JL_scale_0 _ _ _ _ _ S h)
theorem dL_weight_0 : decode cL_weight 0 = .ok (.aload_n 3, 1) := by decide +kernel
theorem dL_weight_1 : decode cL_weight 1 = .ok (.iconst 0, 1) := by decide +kernel
theorem dL_weight_2 : decode cL_weight 2 = .ok (.aload_n 0, 1) := by decide +kernel
theorem dL_weight_3 : decode cL_weight 3 = .ok (.iload_n 1, 1) := by decide +kernel
theorem dL_weight_4 : decode cL_weight 4 = .ok (.iload_n 2, 1) := by decide +kernel
theorem dL_weight_5 : decode cL_weight 5 = .ok (.invokevirtual 27, 3) := by decide +kernel
theorem dL_weight_8 : decode cL_weight 8 = .ok (.i2l, 1) := by decide +kernel
theorem dL_weight_9 : decode cL_weight 9 = .ok (.lastore, 1) := by decide +kernel
theorem dL_weight_10 : decode cL_weight 10 = .ok (.goto 11, 3) := by decide +kernel
theorem dL_weight_13 : decode cL_weight 13 = .ok (.astore 4, 2) := by decide +kernel
theorem dL_weight_15 : decode cL_weight 15 = .ok (.iconst 1, 1) := by decide +kernel
theorem dL_weight_16 : decode cL_weight 16 = .ok (.ireturn, 1) := by decide +kernel
theorem dL_weight_17 : decode cL_weight 17 = .ok (.astore 4, 2) := by decide +kernel
theorem dL_weight_19 : decode cL_weight 19 = .ok (.iconst 2, 1) := by decide +kernel
theorem dL_weight_20 : decode cL_weight 20 = .ok (.ireturn, 1) := by decide +kernel
theorem dL_weight_21 : decode cL_weight 21 = .ok (.iconst 0, 1) := by decide +kernel
theorem dL_weight_22 : decode cL_weight 22 = .ok (.ireturn, 1) := by decide +kernel
def VL_weight_0 (d : Nat) (Q : Out → MS → Prop) (x0 : Nat) (x1 : Int) (x2 : Int) (x3 : Nat) (S : MS) : Prop :=
  S.K x0 = 10 ∧ Mw hX10_weight yX10_weight d [vA x0, vI x1, vI x2] S (xI (fun r1 S1 => (S1.K x3 = 14 ∧ 0 ≤ (0 : Int) ∧ (0 : Int) < S1.N x3) ∧ (Q (.inl (some (vI 0))) (S1.setJ x3 ((0 : Int)).toNat (i2L r1)))) (fun E S9 => (E = "java/lang/IndexOutOfBoundsException" ∧ Q (.inl (some (vI 1))) S9) ∨ (E = "java/lang/IllegalArgumentException" ∧ Q (.inl (some (vI 2))) S9)))
theorem JL_weight_0 {d : Nat} {S0 : MS} {Q : Out → MS → Prop} (x0 : Nat) (x1 : Int) (x2 : Int) (x3 : Nat) (S : MS) (h : VL_weight_0 d Q x0 x1 x2 x3 S) : Jw FinM RL cL_weight 5 (some .int) [(0, 10, 13, 31), (0, 10, 17, 13)] yL_weight (d + 1) S0 S 0 [(0, vA x0), (1, vI x1), (2, vI x2), (3, vA x3)] [] Q :=
  j_aload_n 3 dL_weight_0 rfl (j_iconst dL_weight_1 (j_aload_n 0 dL_weight_2 rfl (j_iload_n 1 dL_weight_3 rfl (j_iload_n 2 dL_weight_4 rfl (j_callV (rest := [vI 0, vA x3]) 10 [vI x1, vI x2] k_RL_27 ⟨w_5_62, w_5_63⟩ ⟨_, _, rfl⟩ (by decide) rfl rfl (Nat.le_of_ble_eq_true rfl) dL_weight_5 h (kI (fun r1 S1 h => j_i2l dL_weight_8 (j_last dL_weight_9 h (fun h => j_goto (tgt := 21) dL_weight_10 (by decide) (j_iconst dL_weight_21 (j_iret rfl dL_weight_22 h)))))) (fun E S9 h => by
      rcases h with ⟨rfl, h⟩ | ⟨rfl, h⟩
      · exact jx_catchR (n := 1) (i := 4) [] ⟨0, 10, 13, 31⟩ [⟨0, 10, 17, 13⟩] rfl (List.forall_mem_nil _) (by decide) (by decide) w_5_60 (List.mem_of_getElem? (i := 2) rfl) rfl (by decide) (Or.inr ⟨dL_weight_13, dL_weight_15, dL_weight_16⟩) h
      · exact jx_catchR (n := 2) (i := 4) [⟨0, 10, 13, 31⟩] ⟨0, 10, 17, 13⟩ [] rfl (List.forall_mem_cons.mpr ⟨⟨by decide, "java/lang/IndexOutOfBoundsException", w_5_60, List.mem_of_getElem? (i := 1) rfl⟩, (List.forall_mem_nil _)⟩) (by decide) (by decide) w_4_29 (List.mem_of_getElem? (i := 0) rfl) rfl (by decide) (Or.inr ⟨dL_weight_17, dL_weight_19, dL_weight_20⟩) h))))))
theorem ML_weight {d : Nat} {x0 : Nat} {x1 : Int} {x2 : Int} {x3 : Nat} {S : MS} {Q : Out → MS → Prop} (h : VL_weight_0 d Q x0 x1 x2 x3 S) : Mw hL_weight yL_weight (d + 1) [vA x0, vI x1, vI x2, vA x3] S Q := Mw.ofJH (by decide) (Nat.le_of_ble_eq_true rfl) (JL_weight_0 _ _ _ _ S h)
theorem dL_rises_0 : decode cL_rises 0 = .ok (.aload_n 3, 1) := by decide +kernel
theorem dL_rises_1 : decode cL_rises 1 = .ok (.iconst 0, 1) := by decide +kernel
theorem dL_rises_2 : decode cL_rises 2 = .ok (.aload_n 0, 1) := by decide +kernel
theorem dL_rises_3 : decode cL_rises 3 = .ok (.iload_n 1, 1) := by decide +kernel
theorem dL_rises_4 : decode cL_rises 4 = .ok (.iload_n 2, 1) := by decide +kernel
theorem dL_rises_5 : decode cL_rises 5 = .ok (.invokevirtual 33, 3) := by decide +kernel
theorem dL_rises_8 : decode cL_rises 8 = .ok (.i2l, 1) := by decide +kernel
theorem dL_rises_9 : decode cL_rises 9 = .ok (.lastore, 1) := by decide +kernel
theorem dL_rises_10 : decode cL_rises 10 = .ok (.goto 11, 3) := by decide +kernel
theorem dL_rises_13 : decode cL_rises 13 = .ok (.astore 4, 2) := by decide +kernel
theorem dL_rises_15 : decode cL_rises 15 = .ok (.iconst 1, 1) := by decide +kernel
theorem dL_rises_16 : decode cL_rises 16 = .ok (.ireturn, 1) := by decide +kernel
theorem dL_rises_17 : decode cL_rises 17 = .ok (.astore 4, 2) := by decide +kernel
theorem dL_rises_19 : decode cL_rises 19 = .ok (.iconst 2, 1) := by decide +kernel
theorem dL_rises_20 : decode cL_rises 20 = .ok (.ireturn, 1) := by decide +kernel
theorem dL_rises_21 : decode cL_rises 21 = .ok (.iconst 0, 1) := by decide +kernel
theorem dL_rises_22 : decode cL_rises 22 = .ok (.ireturn, 1) := by decide +kernel
def VL_rises_0 (d : Nat) (Q : Out → MS → Prop) (x0 : Nat) (x1 : Int) (x2 : Int) (x3 : Nat) (S : MS) : Prop :=
  S.K x0 = 10 ∧ Mw hX10_rises yX10_rises d [vA x0, vI x1, vI x2] S (xI (fun r1 S1 => (S1.K x3 = 14 ∧ 0 ≤ (0 : Int) ∧ (0 : Int) < S1.N x3) ∧ (Q (.inl (some (vI 0))) (S1.setJ x3 ((0 : Int)).toNat (i2L r1)))) (fun E S9 => (E = "java/lang/IndexOutOfBoundsException" ∧ Q (.inl (some (vI 1))) S9) ∨ (E = "java/lang/IllegalArgumentException" ∧ Q (.inl (some (vI 2))) S9)))
theorem JL_rises_0 {d : Nat} {S0 : MS} {Q : Out → MS → Prop} (x0 : Nat) (x1 : Int) (x2 : Int) (x3 : Nat) (S : MS) (h : VL_rises_0 d Q x0 x1 x2 x3 S) : Jw FinM RL cL_rises 5 (some .int) [(0, 10, 13, 31), (0, 10, 17, 13)] yL_rises (d + 1) S0 S 0 [(0, vA x0), (1, vI x1), (2, vI x2), (3, vA x3)] [] Q :=
  j_aload_n 3 dL_rises_0 rfl (j_iconst dL_rises_1 (j_aload_n 0 dL_rises_2 rfl (j_iload_n 1 dL_rises_3 rfl (j_iload_n 2 dL_rises_4 rfl (j_callV (rest := [vI 0, vA x3]) 10 [vI x1, vI x2] k_RL_33 ⟨w_5_94, w_5_95⟩ ⟨_, _, rfl⟩ (by decide) rfl rfl (Nat.le_of_ble_eq_true rfl) dL_rises_5 h (kI (fun r1 S1 h => j_i2l dL_rises_8 (j_last dL_rises_9 h (fun h => j_goto (tgt := 21) dL_rises_10 (by decide) (j_iconst dL_rises_21 (j_iret rfl dL_rises_22 h)))))) (fun E S9 h => by
      rcases h with ⟨rfl, h⟩ | ⟨rfl, h⟩
      · exact jx_catchR (n := 1) (i := 4) [] ⟨0, 10, 13, 31⟩ [⟨0, 10, 17, 13⟩] rfl (List.forall_mem_nil _) (by decide) (by decide) w_5_60 (List.mem_of_getElem? (i := 2) rfl) rfl (by decide) (Or.inr ⟨dL_rises_13, dL_rises_15, dL_rises_16⟩) h
      · exact jx_catchR (n := 2) (i := 4) [⟨0, 10, 13, 31⟩] ⟨0, 10, 17, 13⟩ [] rfl (List.forall_mem_cons.mpr ⟨⟨by decide, "java/lang/IndexOutOfBoundsException", w_5_60, List.mem_of_getElem? (i := 1) rfl⟩, (List.forall_mem_nil _)⟩) (by decide) (by decide) w_4_29 (List.mem_of_getElem? (i := 0) rfl) rfl (by decide) (Or.inr ⟨dL_rises_17, dL_rises_19, dL_rises_20⟩) h))))))
theorem ML_rises {d : Nat} {x0 : Nat} {x1 : Int} {x2 : Int} {x3 : Nat} {S : MS} {Q : Out → MS → Prop} (h : VL_rises_0 d Q x0 x1 x2 x3 S) : Mw hL_rises yL_rises (d + 1) [vA x0, vI x1, vI x2, vA x3] S Q := Mw.ofJH (by decide) (Nat.le_of_ble_eq_true rfl) (JL_rises_0 _ _ _ _ S h)
theorem dL_note_0 : decode cL_note 0 = .ok (.aload 4, 2) := by decide +kernel
theorem dL_note_2 : decode cL_note 2 = .ok (.iconst 0, 1) := by decide +kernel
theorem dL_note_3 : decode cL_note 3 = .ok (.aload_n 0, 1) := by decide +kernel
theorem dL_note_4 : decode cL_note 4 = .ok (.iload_n 1, 1) := by decide +kernel
theorem dL_note_5 : decode cL_note 5 = .ok (.iload_n 2, 1) := by decide +kernel
theorem dL_note_6 : decode cL_note 6 = .ok (.iload_n 3, 1) := by decide +kernel
theorem dL_note_7 : decode cL_note 7 = .ok (.invokevirtual 36, 3) := by decide +kernel
theorem dL_note_10 : decode cL_note 10 = .ok (.i2l, 1) := by decide +kernel
theorem dL_note_11 : decode cL_note 11 = .ok (.lastore, 1) := by decide +kernel
theorem dL_note_12 : decode cL_note 12 = .ok (.goto 15, 3) := by decide +kernel
theorem dL_note_15 : decode cL_note 15 = .ok (.astore 5, 2) := by decide +kernel
theorem dL_note_17 : decode cL_note 17 = .ok (.iconst 1, 1) := by decide +kernel
theorem dL_note_18 : decode cL_note 18 = .ok (.ireturn, 1) := by decide +kernel
theorem dL_note_19 : decode cL_note 19 = .ok (.astore 5, 2) := by decide +kernel
theorem dL_note_21 : decode cL_note 21 = .ok (.iconst 2, 1) := by decide +kernel
theorem dL_note_22 : decode cL_note 22 = .ok (.ireturn, 1) := by decide +kernel
theorem dL_note_23 : decode cL_note 23 = .ok (.astore 5, 2) := by decide +kernel
theorem dL_note_25 : decode cL_note 25 = .ok (.iconst 3, 1) := by decide +kernel
theorem dL_note_26 : decode cL_note 26 = .ok (.ireturn, 1) := by decide +kernel
theorem dL_note_27 : decode cL_note 27 = .ok (.iconst 0, 1) := by decide +kernel
theorem dL_note_28 : decode cL_note 28 = .ok (.ireturn, 1) := by decide +kernel
def VL_note_0 (d : Nat) (Q : Out → MS → Prop) (x0 : Nat) (x1 : Int) (x2 : Int) (x3 : Int) (x4 : Nat) (S : MS) : Prop :=
  S.K x0 = 10 ∧ Mw hX10_note yX10_note d [vA x0, vI x1, vI x2, vI x3] S (xI (fun r1 S1 => (S1.K x4 = 14 ∧ 0 ≤ (0 : Int) ∧ (0 : Int) < S1.N x4) ∧ (Q (.inl (some (vI 0))) (S1.setJ x4 ((0 : Int)).toNat (i2L r1)))) (fun E S9 => (E = "java/lang/IndexOutOfBoundsException" ∧ Q (.inl (some (vI 1))) S9) ∨ (E = "java/lang/IllegalArgumentException" ∧ Q (.inl (some (vI 2))) S9) ∨ (E = "java/lang/UnsupportedOperationException" ∧ Q (.inl (some (vI 3))) S9)))
theorem JL_note_0 {d : Nat} {S0 : MS} {Q : Out → MS → Prop} (x0 : Nat) (x1 : Int) (x2 : Int) (x3 : Int) (x4 : Nat) (S : MS) (h : VL_note_0 d Q x0 x1 x2 x3 x4 S) : Jw FinM RL cL_note 6 (some .int) [(0, 12, 15, 31), (0, 12, 19, 13), (0, 12, 23, 15)] yL_note (d + 1) S0 S 0 [(0, vA x0), (1, vI x1), (2, vI x2), (3, vI x3), (4, vA x4)] [] Q :=
  j_aload 4 dL_note_0 rfl (j_iconst dL_note_2 (j_aload_n 0 dL_note_3 rfl (j_iload_n 1 dL_note_4 rfl (j_iload_n 2 dL_note_5 rfl (j_iload_n 3 dL_note_6 rfl (j_callV (rest := [vI 0, vA x4]) 10 [vI x1, vI x2, vI x3] k_RL_36 ⟨w_5_118, w_5_119⟩ ⟨_, _, rfl⟩ (by decide) rfl rfl (Nat.le_of_ble_eq_true rfl) dL_note_7 h (kI (fun r1 S1 h => j_i2l dL_note_10 (j_last dL_note_11 h (fun h => j_goto (tgt := 27) dL_note_12 (by decide) (j_iconst dL_note_27 (j_iret rfl dL_note_28 h)))))) (fun E S9 h => by
      rcases h with ⟨rfl, h⟩ | ⟨rfl, h⟩ | ⟨rfl, h⟩
      · exact jx_catchR (n := 1) (i := 5) [] ⟨0, 12, 15, 31⟩ [⟨0, 12, 19, 13⟩, ⟨0, 12, 23, 15⟩] rfl (List.forall_mem_nil _) (by decide) (by decide) w_5_60 (List.mem_of_getElem? (i := 2) rfl) rfl (by decide) (Or.inr ⟨dL_note_15, dL_note_17, dL_note_18⟩) h
      · exact jx_catchR (n := 2) (i := 5) [⟨0, 12, 15, 31⟩] ⟨0, 12, 19, 13⟩ [⟨0, 12, 23, 15⟩] rfl (List.forall_mem_cons.mpr ⟨⟨by decide, "java/lang/IndexOutOfBoundsException", w_5_60, List.mem_of_getElem? (i := 1) rfl⟩, (List.forall_mem_nil _)⟩) (by decide) (by decide) w_4_29 (List.mem_of_getElem? (i := 0) rfl) rfl (by decide) (Or.inr ⟨dL_note_19, dL_note_21, dL_note_22⟩) h
      · exact jx_catchR (n := 3) (i := 5) [⟨0, 12, 15, 31⟩, ⟨0, 12, 19, 13⟩] ⟨0, 12, 23, 15⟩ [] rfl (List.forall_mem_cons.mpr ⟨⟨by decide, "java/lang/IndexOutOfBoundsException", w_5_60, List.mem_of_getElem? (i := 14) rfl⟩, (List.forall_mem_cons.mpr ⟨⟨by decide, "java/lang/IllegalArgumentException", w_4_29, List.mem_of_getElem? (i := 12) rfl⟩, (List.forall_mem_nil _)⟩)⟩) (by decide) (by decide) w_4_30 (List.mem_of_getElem? (i := 3) rfl) rfl (by decide) (Or.inr ⟨dL_note_23, dL_note_25, dL_note_26⟩) h)))))))
theorem ML_note {d : Nat} {x0 : Nat} {x1 : Int} {x2 : Int} {x3 : Int} {x4 : Nat} {S : MS} {Q : Out → MS → Prop} (h : VL_note_0 d Q x0 x1 x2 x3 x4 S) : Mw hL_note yL_note (d + 1) [vA x0, vI x1, vI x2, vI x3, vA x4] S Q := Mw.ofJH (by decide) (Nat.le_of_ble_eq_true rfl) (JL_note_0 _ _ _ _ _ S h)
theorem dL_look_0 : decode cL_look 0 = .ok (.aload_n 3, 1) := by decide +kernel
theorem dL_look_1 : decode cL_look 1 = .ok (.iconst 0, 1) := by decide +kernel
theorem dL_look_2 : decode cL_look 2 = .ok (.aload_n 0, 1) := by decide +kernel
theorem dL_look_3 : decode cL_look 3 = .ok (.iload_n 1, 1) := by decide +kernel
theorem dL_look_4 : decode cL_look 4 = .ok (.iload_n 2, 1) := by decide +kernel
theorem dL_look_5 : decode cL_look 5 = .ok (.invokevirtual 39, 3) := by decide +kernel
theorem dL_look_8 : decode cL_look 8 = .ok (.i2l, 1) := by decide +kernel
theorem dL_look_9 : decode cL_look 9 = .ok (.lastore, 1) := by decide +kernel
theorem dL_look_10 : decode cL_look 10 = .ok (.goto 11, 3) := by decide +kernel
theorem dL_look_13 : decode cL_look 13 = .ok (.astore 4, 2) := by decide +kernel
theorem dL_look_15 : decode cL_look 15 = .ok (.iconst 1, 1) := by decide +kernel
theorem dL_look_16 : decode cL_look 16 = .ok (.ireturn, 1) := by decide +kernel
theorem dL_look_17 : decode cL_look 17 = .ok (.astore 4, 2) := by decide +kernel
theorem dL_look_19 : decode cL_look 19 = .ok (.iconst 2, 1) := by decide +kernel
theorem dL_look_20 : decode cL_look 20 = .ok (.ireturn, 1) := by decide +kernel
theorem dL_look_21 : decode cL_look 21 = .ok (.iconst 0, 1) := by decide +kernel
theorem dL_look_22 : decode cL_look 22 = .ok (.ireturn, 1) := by decide +kernel
def VL_look_0 (d : Nat) (Q : Out → MS → Prop) (x0 : Nat) (x1 : Int) (x2 : Int) (x3 : Nat) (S : MS) : Prop :=
  S.K x0 = 10 ∧ Mw hX10_look yX10_look d [vA x0, vI x1, vI x2] S (xI (fun r1 S1 => (S1.K x3 = 14 ∧ 0 ≤ (0 : Int) ∧ (0 : Int) < S1.N x3) ∧ (Q (.inl (some (vI 0))) (S1.setJ x3 ((0 : Int)).toNat (i2L r1)))) (fun E S9 => (E = "java/lang/IndexOutOfBoundsException" ∧ Q (.inl (some (vI 1))) S9) ∨ (E = "java/util/NoSuchElementException" ∧ Q (.inl (some (vI 2))) S9)))
theorem JL_look_0 {d : Nat} {S0 : MS} {Q : Out → MS → Prop} (x0 : Nat) (x1 : Int) (x2 : Int) (x3 : Nat) (S : MS) (h : VL_look_0 d Q x0 x1 x2 x3 S) : Jw FinM RL cL_look 5 (some .int) [(0, 10, 13, 31), (0, 10, 17, 42)] yL_look (d + 1) S0 S 0 [(0, vA x0), (1, vI x1), (2, vI x2), (3, vA x3)] [] Q :=
  j_aload_n 3 dL_look_0 rfl (j_iconst dL_look_1 (j_aload_n 0 dL_look_2 rfl (j_iload_n 1 dL_look_3 rfl (j_iload_n 2 dL_look_4 rfl (j_callV (rest := [vI 0, vA x3]) 10 [vI x1, vI x2] k_RL_39 ⟨w_5_129, w_5_130⟩ ⟨_, _, rfl⟩ (by decide) rfl rfl (Nat.le_of_ble_eq_true rfl) dL_look_5 h (kI (fun r1 S1 h => j_i2l dL_look_8 (j_last dL_look_9 h (fun h => j_goto (tgt := 21) dL_look_10 (by decide) (j_iconst dL_look_21 (j_iret rfl dL_look_22 h)))))) (fun E S9 h => by
      rcases h with ⟨rfl, h⟩ | ⟨rfl, h⟩
      · exact jx_catchR (n := 1) (i := 4) [] ⟨0, 10, 13, 31⟩ [⟨0, 10, 17, 42⟩] rfl (List.forall_mem_nil _) (by decide) (by decide) w_5_60 (List.mem_of_getElem? (i := 2) rfl) rfl (by decide) (Or.inr ⟨dL_look_13, dL_look_15, dL_look_16⟩) h
      · exact jx_catchR (n := 2) (i := 4) [⟨0, 10, 13, 31⟩] ⟨0, 10, 17, 42⟩ [] rfl (List.forall_mem_cons.mpr ⟨⟨by decide, "java/lang/IndexOutOfBoundsException", w_5_60, List.mem_of_getElem? (i := 18) rfl⟩, (List.forall_mem_nil _)⟩) (by decide) (by decide) w_5_127 (List.mem_of_getElem? (i := 4) rfl) rfl (by decide) (Or.inr ⟨dL_look_17, dL_look_19, dL_look_20⟩) h))))))
theorem ML_look {d : Nat} {x0 : Nat} {x1 : Int} {x2 : Int} {x3 : Nat} {S : MS} {Q : Out → MS → Prop} (h : VL_look_0 d Q x0 x1 x2 x3 S) : Mw hL_look yL_look (d + 1) [vA x0, vI x1, vI x2, vA x3] S Q := Mw.ofJH (by decide) (Nat.le_of_ble_eq_true rfl) (JL_look_0 _ _ _ _ S h)
theorem dL_drop_0 : decode cL_drop 0 = .ok (.aload_n 2, 1) := by decide +kernel
theorem dL_drop_1 : decode cL_drop 1 = .ok (.iconst 0, 1) := by decide +kernel
theorem dL_drop_2 : decode cL_drop 2 = .ok (.aload_n 0, 1) := by decide +kernel
theorem dL_drop_3 : decode cL_drop 3 = .ok (.iload_n 1, 1) := by decide +kernel
theorem dL_drop_4 : decode cL_drop 4 = .ok (.invokevirtual 44, 3) := by decide +kernel
theorem dL_drop_7 : decode cL_drop 7 = .ok (.i2l, 1) := by decide +kernel
theorem dL_drop_8 : decode cL_drop 8 = .ok (.lastore, 1) := by decide +kernel
theorem dL_drop_9 : decode cL_drop 9 = .ok (.goto 6, 3) := by decide +kernel
theorem dL_drop_12 : decode cL_drop 12 = .ok (.astore_n 3, 1) := by decide +kernel
theorem dL_drop_13 : decode cL_drop 13 = .ok (.iconst 1, 1) := by decide +kernel
theorem dL_drop_14 : decode cL_drop 14 = .ok (.ireturn, 1) := by decide +kernel
theorem dL_drop_15 : decode cL_drop 15 = .ok (.iconst 0, 1) := by decide +kernel
theorem dL_drop_16 : decode cL_drop 16 = .ok (.ireturn, 1) := by decide +kernel
def VL_drop_0 (d : Nat) (Q : Out → MS → Prop) (x0 : Nat) (x1 : Int) (x2 : Nat) (S : MS) : Prop :=
  S.K x0 = 10 ∧ Mw hX10_drop yX10_drop d [vA x0, vI x1] S (xI (fun r1 S1 => (S1.K x2 = 14 ∧ 0 ≤ (0 : Int) ∧ (0 : Int) < S1.N x2) ∧ (Q (.inl (some (vI 0))) (S1.setJ x2 ((0 : Int)).toNat (i2L r1)))) (fun E S9 => (E = "java/lang/IndexOutOfBoundsException" ∧ Q (.inl (some (vI 1))) S9)))
theorem JL_drop_0 {d : Nat} {S0 : MS} {Q : Out → MS → Prop} (x0 : Nat) (x1 : Int) (x2 : Nat) (S : MS) (h : VL_drop_0 d Q x0 x1 x2 S) : Jw FinM RL cL_drop 4 (some .int) [(0, 9, 12, 31)] yL_drop (d + 1) S0 S 0 [(0, vA x0), (1, vI x1), (2, vA x2)] [] Q :=
  j_aload_n 2 dL_drop_0 rfl (j_iconst dL_drop_1 (j_aload_n 0 dL_drop_2 rfl (j_iload_n 1 dL_drop_3 rfl (j_callV (rest := [vI 0, vA x2]) 10 [vI x1] k_RL_44 ⟨w_5_157, w_5_158⟩ ⟨_, _, rfl⟩ (by decide) rfl rfl (Nat.le_of_ble_eq_true rfl) dL_drop_4 h (kI (fun r1 S1 h => j_i2l dL_drop_7 (j_last dL_drop_8 h (fun h => j_goto (tgt := 15) dL_drop_9 (by decide) (j_iconst dL_drop_15 (j_iret rfl dL_drop_16 h)))))) (fun E S9 h => by
      rcases h with ⟨rfl, h⟩
      · exact jx_catchR (n := 1) (i := 3) [] ⟨0, 9, 12, 31⟩ [] rfl (List.forall_mem_nil _) (by decide) (by decide) w_5_60 (List.mem_of_getElem? (i := 2) rfl) rfl (by decide) (Or.inl ⟨3, rfl, dL_drop_12, dL_drop_13, dL_drop_14⟩) h)))))
theorem ML_drop {d : Nat} {x0 : Nat} {x1 : Int} {x2 : Nat} {S : MS} {Q : Out → MS → Prop} (h : VL_drop_0 d Q x0 x1 x2 S) : Mw hL_drop yL_drop (d + 1) [vA x0, vI x1, vA x2] S Q := Mw.ofJH (by decide) (Nat.le_of_ble_eq_true rfl) (JL_drop_0 _ _ _ S h)
theorem dL_row_0 : decode cL_row 0 = .ok (.aload_n 3, 1) := by decide +kernel
theorem dL_row_1 : decode cL_row 1 = .ok (.iconst 0, 1) := by decide +kernel
theorem dL_row_2 : decode cL_row 2 = .ok (.aload_n 0, 1) := by decide +kernel
theorem dL_row_3 : decode cL_row 3 = .ok (.iload_n 1, 1) := by decide +kernel
theorem dL_row_4 : decode cL_row 4 = .ok (.iload_n 2, 1) := by decide +kernel
theorem dL_row_5 : decode cL_row 5 = .ok (.invokevirtual 48, 3) := by decide +kernel
theorem dL_row_8 : decode cL_row 8 = .ok (.i2l, 1) := by decide +kernel
theorem dL_row_9 : decode cL_row 9 = .ok (.lastore, 1) := by decide +kernel
theorem dL_row_10 : decode cL_row 10 = .ok (.goto 7, 3) := by decide +kernel
theorem dL_row_13 : decode cL_row 13 = .ok (.astore 4, 2) := by decide +kernel
theorem dL_row_15 : decode cL_row 15 = .ok (.iconst 1, 1) := by decide +kernel
theorem dL_row_16 : decode cL_row 16 = .ok (.ireturn, 1) := by decide +kernel
theorem dL_row_17 : decode cL_row 17 = .ok (.iconst 0, 1) := by decide +kernel
theorem dL_row_18 : decode cL_row 18 = .ok (.ireturn, 1) := by decide +kernel
def VL_row_0 (d : Nat) (Q : Out → MS → Prop) (x0 : Nat) (x1 : Int) (x2 : Int) (x3 : Nat) (S : MS) : Prop :=
  S.K x0 = 10 ∧ Mw hX10_row yX10_row d [vA x0, vI x1, vI x2] S (xI (fun r1 S1 => (S1.K x3 = 14 ∧ 0 ≤ (0 : Int) ∧ (0 : Int) < S1.N x3) ∧ (Q (.inl (some (vI 0))) (S1.setJ x3 ((0 : Int)).toNat (i2L r1)))) (fun E S9 => (E = "java/lang/IndexOutOfBoundsException" ∧ Q (.inl (some (vI 1))) S9)))
theorem JL_row_0 {d : Nat} {S0 : MS} {Q : Out → MS → Prop} (x0 : Nat) (x1 : Int) (x2 : Int) (x3 : Nat) (S : MS) (h : VL_row_0 d Q x0 x1 x2 x3 S) : Jw FinM RL cL_row 5 (some .int) [(0, 10, 13, 31)] yL_row (d + 1) S0 S 0 [(0, vA x0), (1, vI x1), (2, vI x2), (3, vA x3)] [] Q :=
  j_aload_n 3 dL_row_0 rfl (j_iconst dL_row_1 (j_aload_n 0 dL_row_2 rfl (j_iload_n 1 dL_row_3 rfl (j_iload_n 2 dL_row_4 rfl (j_callV (rest := [vI 0, vA x3]) 10 [vI x1, vI x2] k_RL_48 ⟨w_5_168, w_5_169⟩ ⟨_, _, rfl⟩ (by decide) rfl rfl (Nat.le_of_ble_eq_true rfl) dL_row_5 h (kI (fun r1 S1 h => j_i2l dL_row_8 (j_last dL_row_9 h (fun h => j_goto (tgt := 17) dL_row_10 (by decide) (j_iconst dL_row_17 (j_iret rfl dL_row_18 h)))))) (fun E S9 h => by
      rcases h with ⟨rfl, h⟩
      · exact jx_catchR (n := 1) (i := 4) [] ⟨0, 10, 13, 31⟩ [] rfl (List.forall_mem_nil _) (by decide) (by decide) w_5_60 (List.mem_of_getElem? (i := 2) rfl) rfl (by decide) (Or.inr ⟨dL_row_13, dL_row_15, dL_row_16⟩) h))))))
theorem ML_row {d : Nat} {x0 : Nat} {x1 : Int} {x2 : Int} {x3 : Nat} {S : MS} {Q : Out → MS → Prop} (h : VL_row_0 d Q x0 x1 x2 x3 S) : Mw hL_row yL_row (d + 1) [vA x0, vI x1, vI x2, vA x3] S Q := Mw.ofJH (by decide) (Nat.le_of_ble_eq_true rfl) (JL_row_0 _ _ _ _ S h)
theorem dL_fits_0 : decode cL_fits 0 = .ok (.aload_n 1, 1) := by decide +kernel
theorem dL_fits_1 : decode cL_fits 1 = .ok (.iconst 0, 1) := by decide +kernel
theorem dL_fits_2 : decode cL_fits 2 = .ok (.aload_n 0, 1) := by decide +kernel
theorem dL_fits_3 : decode cL_fits 3 = .ok (.invokevirtual 51, 3) := by decide +kernel
theorem dL_fits_6 : decode cL_fits 6 = .ok (.ifCond .eq 7, 3) := by decide +kernel
theorem dL_fits_9 : decode cL_fits 9 = .ok (.lconst 1, 1) := by decide +kernel
theorem dL_fits_10 : decode cL_fits 10 = .ok (.goto 4, 3) := by decide +kernel
theorem dL_fits_13 : decode cL_fits 13 = .ok (.lconst 0, 1) := by decide +kernel
theorem dL_fits_14 : decode cL_fits 14 = .ok (.lastore, 1) := by decide +kernel
theorem dL_fits_15 : decode cL_fits 15 = .ok (.goto 6, 3) := by decide +kernel
theorem dL_fits_18 : decode cL_fits 18 = .ok (.astore_n 2, 1) := by decide +kernel
theorem dL_fits_19 : decode cL_fits 19 = .ok (.iconst 1, 1) := by decide +kernel
theorem dL_fits_20 : decode cL_fits 20 = .ok (.ireturn, 1) := by decide +kernel
theorem dL_fits_21 : decode cL_fits 21 = .ok (.iconst 0, 1) := by decide +kernel
theorem dL_fits_22 : decode cL_fits 22 = .ok (.ireturn, 1) := by decide +kernel
def VL_fits_14 (d : Nat) (Q : Out → MS → Prop) (t0 : BitVec 64) (t1 : Int) (t2 : Nat) (S : MS) : Prop :=
  (S.K t2 = 14 ∧ 0 ≤ t1 ∧ t1 < S.N t2) ∧ (Q (.inl (some (vI 0))) (S.setJ t2 (t1).toNat t0))
theorem JL_fits_14 {d : Nat} {S0 : MS} {Q : Out → MS → Prop} (t0 : BitVec 64) (t1 : Int) (t2 : Nat) (S : MS) (h : VL_fits_14 d Q t0 t1 t2 S) : Jw FinM RL cL_fits 3 (some .int) [(0, 15, 18, 13)] yL_fits (d + 1) S0 S 14 [] [vL t0, vI t1, vA t2] Q :=
  j_last dL_fits_14 h (fun h => j_goto (tgt := 21) dL_fits_15 (by decide) (j_iconst dL_fits_21 (j_iret rfl dL_fits_22 h)))
def VL_fits_0 (d : Nat) (Q : Out → MS → Prop) (x0 : Nat) (x1 : Nat) (S : MS) : Prop :=
  S.K x0 = 10 ∧ Mw hX10_fits yX10_fits d [vA x0] S (xI (fun r1 S1 => R32 r1 ∧ ((r1 = 0) → VL_fits_14 d Q (0#64) 0 x1 S1) ∧ (¬ (r1 = 0) → VL_fits_14 d Q (1#64) 0 x1 S1)) (fun E S9 => (E = "java/lang/IllegalArgumentException" ∧ Q (.inl (some (vI 1))) S9)))
theorem JL_fits_0 {d : Nat} {S0 : MS} {Q : Out → MS → Prop} (x0 : Nat) (x1 : Nat) (S : MS) (h : VL_fits_0 d Q x0 x1 S) : Jw FinM RL cL_fits 3 (some .int) [(0, 15, 18, 13)] yL_fits (d + 1) S0 S 0 [(0, vA x0), (1, vA x1)] [] Q :=
  j_aload_n 1 dL_fits_0 rfl (j_iconst dL_fits_1 (j_aload_n 0 dL_fits_2 rfl (j_callV (rest := [vI 0, vA x1]) 10 [] k_RL_51 ⟨w_5_179, w_5_180⟩ ⟨_, _, rfl⟩ (by decide) rfl rfl (Nat.le_of_ble_eq_true rfl) dL_fits_3 h (kI (fun r1 S1 h => j_if_eq (tgt := 13) dL_fits_6 (by decide) h (fun h => j_lconst dL_fits_13 rfl (j_sub [] rfl (JL_fits_14 _ _ _ _ h))) (fun h => j_lconst dL_fits_9 rfl (j_goto (tgt := 14) dL_fits_10 (by decide) (j_sub [] rfl (JL_fits_14 _ _ _ _ h)))))) (fun E S9 h => by
      rcases h with ⟨rfl, h⟩
      · exact jx_catchR (n := 1) (i := 2) [] ⟨0, 15, 18, 13⟩ [] rfl (List.forall_mem_nil _) (by decide) (by decide) w_4_29 (List.mem_of_getElem? (i := 0) rfl) rfl (by decide) (Or.inl ⟨2, rfl, dL_fits_18, dL_fits_19, dL_fits_20⟩) h))))
theorem ML_fits {d : Nat} {x0 : Nat} {x1 : Nat} {S : MS} {Q : Out → MS → Prop} (h : VL_fits_0 d Q x0 x1 S) : Mw hL_fits yL_fits (d + 1) [vA x0, vA x1] S Q := Mw.ofJH (by decide) (Nat.le_of_ble_eq_true rfl) (JL_fits_0 _ _ S h)
theorem dL_may_0 : decode cL_may 0 = .ok (.aload_n 2, 1) := by decide +kernel
theorem dL_may_1 : decode cL_may 1 = .ok (.iconst 0, 1) := by decide +kernel
theorem dL_may_2 : decode cL_may 2 = .ok (.aload_n 0, 1) := by decide +kernel
theorem dL_may_3 : decode cL_may 3 = .ok (.iload_n 1, 1) := by decide +kernel
theorem dL_may_4 : decode cL_may 4 = .ok (.invokevirtual 55, 3) := by decide +kernel
theorem dL_may_7 : decode cL_may 7 = .ok (.i2l, 1) := by decide +kernel
theorem dL_may_8 : decode cL_may 8 = .ok (.lastore, 1) := by decide +kernel
theorem dL_may_9 : decode cL_may 9 = .ok (.goto 6, 3) := by decide +kernel
theorem dL_may_12 : decode cL_may 12 = .ok (.astore_n 3, 1) := by decide +kernel
theorem dL_may_13 : decode cL_may 13 = .ok (.iconst 1, 1) := by decide +kernel
theorem dL_may_14 : decode cL_may 14 = .ok (.ireturn, 1) := by decide +kernel
theorem dL_may_15 : decode cL_may 15 = .ok (.iconst 0, 1) := by decide +kernel
theorem dL_may_16 : decode cL_may 16 = .ok (.ireturn, 1) := by decide +kernel
def VL_may_0 (d : Nat) (Q : Out → MS → Prop) (x0 : Nat) (x1 : Int) (x2 : Nat) (S : MS) : Prop :=
  S.K x0 = 10 ∧ Mw hX10_may yX10_may d [vA x0, vI x1] S (xI (fun r1 S1 => (S1.K x2 = 14 ∧ 0 ≤ (0 : Int) ∧ (0 : Int) < S1.N x2) ∧ (Q (.inl (some (vI 0))) (S1.setJ x2 ((0 : Int)).toNat (i2L r1)))) (fun E S9 => (E = "java/lang/IllegalArgumentException" ∧ Q (.inl (some (vI 1))) S9)))
theorem JL_may_0 {d : Nat} {S0 : MS} {Q : Out → MS → Prop} (x0 : Nat) (x1 : Int) (x2 : Nat) (S : MS) (h : VL_may_0 d Q x0 x1 x2 S) : Jw FinM RL cL_may 4 (some .int) [(0, 9, 12, 13)] yL_may (d + 1) S0 S 0 [(0, vA x0), (1, vI x1), (2, vA x2)] [] Q :=
  j_aload_n 2 dL_may_0 rfl (j_iconst dL_may_1 (j_aload_n 0 dL_may_2 rfl (j_iload_n 1 dL_may_3 rfl (j_callV (rest := [vI 0, vA x2]) 10 [vI x1] k_RL_55 ⟨w_5_199, w_5_200⟩ ⟨_, _, rfl⟩ (by decide) rfl rfl (Nat.le_of_ble_eq_true rfl) dL_may_4 h (kI (fun r1 S1 h => j_i2l dL_may_7 (j_last dL_may_8 h (fun h => j_goto (tgt := 15) dL_may_9 (by decide) (j_iconst dL_may_15 (j_iret rfl dL_may_16 h)))))) (fun E S9 h => by
      rcases h with ⟨rfl, h⟩
      · exact jx_catchR (n := 1) (i := 3) [] ⟨0, 9, 12, 13⟩ [] rfl (List.forall_mem_nil _) (by decide) (by decide) w_4_29 (List.mem_of_getElem? (i := 0) rfl) rfl (by decide) (Or.inl ⟨3, rfl, dL_may_12, dL_may_13, dL_may_14⟩) h)))))
theorem ML_may {d : Nat} {x0 : Nat} {x1 : Int} {x2 : Nat} {S : MS} {Q : Out → MS → Prop} (h : VL_may_0 d Q x0 x1 x2 S) : Mw hL_may yL_may (d + 1) [vA x0, vI x1, vA x2] S Q := Mw.ofJH (by decide) (Nat.le_of_ble_eq_true rfl) (JL_may_0 _ _ _ S h)
theorem dL_heavier_0 : decode cL_heavier 0 = .ok (.aload_n 3, 1) := by decide +kernel
theorem dL_heavier_1 : decode cL_heavier 1 = .ok (.iconst 0, 1) := by decide +kernel
theorem dL_heavier_2 : decode cL_heavier 2 = .ok (.aload_n 0, 1) := by decide +kernel
theorem dL_heavier_3 : decode cL_heavier 3 = .ok (.iload_n 1, 1) := by decide +kernel
theorem dL_heavier_4 : decode cL_heavier 4 = .ok (.iload_n 2, 1) := by decide +kernel
theorem dL_heavier_5 : decode cL_heavier 5 = .ok (.invokevirtual 58, 3) := by decide +kernel
theorem dL_heavier_8 : decode cL_heavier 8 = .ok (.i2l, 1) := by decide +kernel
theorem dL_heavier_9 : decode cL_heavier 9 = .ok (.lastore, 1) := by decide +kernel
theorem dL_heavier_10 : decode cL_heavier 10 = .ok (.goto 11, 3) := by decide +kernel
theorem dL_heavier_13 : decode cL_heavier 13 = .ok (.astore 4, 2) := by decide +kernel
theorem dL_heavier_15 : decode cL_heavier 15 = .ok (.iconst 1, 1) := by decide +kernel
theorem dL_heavier_16 : decode cL_heavier 16 = .ok (.ireturn, 1) := by decide +kernel
theorem dL_heavier_17 : decode cL_heavier 17 = .ok (.astore 4, 2) := by decide +kernel
theorem dL_heavier_19 : decode cL_heavier 19 = .ok (.iconst 2, 1) := by decide +kernel
theorem dL_heavier_20 : decode cL_heavier 20 = .ok (.ireturn, 1) := by decide +kernel
theorem dL_heavier_21 : decode cL_heavier 21 = .ok (.iconst 0, 1) := by decide +kernel
theorem dL_heavier_22 : decode cL_heavier 22 = .ok (.ireturn, 1) := by decide +kernel
def VL_heavier_0 (d : Nat) (Q : Out → MS → Prop) (x0 : Nat) (x1 : Int) (x2 : Int) (x3 : Nat) (S : MS) : Prop :=
  S.K x0 = 10 ∧ Mw hX10_heavier yX10_heavier d [vA x0, vI x1, vI x2] S (xI (fun r1 S1 => (S1.K x3 = 14 ∧ 0 ≤ (0 : Int) ∧ (0 : Int) < S1.N x3) ∧ (Q (.inl (some (vI 0))) (S1.setJ x3 ((0 : Int)).toNat (i2L r1)))) (fun E S9 => (E = "java/lang/IndexOutOfBoundsException" ∧ Q (.inl (some (vI 1))) S9) ∨ (E = "java/lang/IllegalArgumentException" ∧ Q (.inl (some (vI 2))) S9)))
theorem JL_heavier_0 {d : Nat} {S0 : MS} {Q : Out → MS → Prop} (x0 : Nat) (x1 : Int) (x2 : Int) (x3 : Nat) (S : MS) (h : VL_heavier_0 d Q x0 x1 x2 x3 S) : Jw FinM RL cL_heavier 5 (some .int) [(0, 10, 13, 31), (0, 10, 17, 13)] yL_heavier (d + 1) S0 S 0 [(0, vA x0), (1, vI x1), (2, vI x2), (3, vA x3)] [] Q :=
  j_aload_n 3 dL_heavier_0 rfl (j_iconst dL_heavier_1 (j_aload_n 0 dL_heavier_2 rfl (j_iload_n 1 dL_heavier_3 rfl (j_iload_n 2 dL_heavier_4 rfl (j_callV (rest := [vI 0, vA x3]) 10 [vI x1, vI x2] k_RL_58 ⟨w_5_211, w_5_212⟩ ⟨_, _, rfl⟩ (by decide) rfl rfl (Nat.le_of_ble_eq_true rfl) dL_heavier_5 h (kI (fun r1 S1 h => j_i2l dL_heavier_8 (j_last dL_heavier_9 h (fun h => j_goto (tgt := 21) dL_heavier_10 (by decide) (j_iconst dL_heavier_21 (j_iret rfl dL_heavier_22 h)))))) (fun E S9 h => by
      rcases h with ⟨rfl, h⟩ | ⟨rfl, h⟩
      · exact jx_catchR (n := 1) (i := 4) [] ⟨0, 10, 13, 31⟩ [⟨0, 10, 17, 13⟩] rfl (List.forall_mem_nil _) (by decide) (by decide) w_5_60 (List.mem_of_getElem? (i := 2) rfl) rfl (by decide) (Or.inr ⟨dL_heavier_13, dL_heavier_15, dL_heavier_16⟩) h
      · exact jx_catchR (n := 2) (i := 4) [⟨0, 10, 13, 31⟩] ⟨0, 10, 17, 13⟩ [] rfl (List.forall_mem_cons.mpr ⟨⟨by decide, "java/lang/IndexOutOfBoundsException", w_5_60, List.mem_of_getElem? (i := 1) rfl⟩, (List.forall_mem_nil _)⟩) (by decide) (by decide) w_4_29 (List.mem_of_getElem? (i := 0) rfl) rfl (by decide) (Or.inr ⟨dL_heavier_17, dL_heavier_19, dL_heavier_20⟩) h))))))
theorem ML_heavier {d : Nat} {x0 : Nat} {x1 : Int} {x2 : Int} {x3 : Nat} {S : MS} {Q : Out → MS → Prop} (h : VL_heavier_0 d Q x0 x1 x2 x3 S) : Mw hL_heavier yL_heavier (d + 1) [vA x0, vI x1, vI x2, vA x3] S Q := Mw.ofJH (by decide) (Nat.le_of_ble_eq_true rfl) (JL_heavier_0 _ _ _ _ S h)
theorem dL_places_0 : decode cL_places 0 = .ok (.aload_n 2, 1) := by decide +kernel
theorem dL_places_1 : decode cL_places 1 = .ok (.iconst 0, 1) := by decide +kernel
theorem dL_places_2 : decode cL_places 2 = .ok (.aload_n 0, 1) := by decide +kernel
theorem dL_places_3 : decode cL_places 3 = .ok (.iload_n 1, 1) := by decide +kernel
theorem dL_places_4 : decode cL_places 4 = .ok (.invokevirtual 61, 3) := by decide +kernel
theorem dL_places_7 : decode cL_places 7 = .ok (.i2l, 1) := by decide +kernel
theorem dL_places_8 : decode cL_places 8 = .ok (.lastore, 1) := by decide +kernel
theorem dL_places_9 : decode cL_places 9 = .ok (.goto 6, 3) := by decide +kernel
theorem dL_places_12 : decode cL_places 12 = .ok (.astore_n 3, 1) := by decide +kernel
theorem dL_places_13 : decode cL_places 13 = .ok (.iconst 1, 1) := by decide +kernel
theorem dL_places_14 : decode cL_places 14 = .ok (.ireturn, 1) := by decide +kernel
theorem dL_places_15 : decode cL_places 15 = .ok (.iconst 0, 1) := by decide +kernel
theorem dL_places_16 : decode cL_places 16 = .ok (.ireturn, 1) := by decide +kernel
def VL_places_0 (d : Nat) (Q : Out → MS → Prop) (x0 : Nat) (x1 : Int) (x2 : Nat) (S : MS) : Prop :=
  S.K x0 = 10 ∧ Mw hX10_places yX10_places d [vA x0, vI x1] S (xI (fun r1 S1 => (S1.K x2 = 14 ∧ 0 ≤ (0 : Int) ∧ (0 : Int) < S1.N x2) ∧ (Q (.inl (some (vI 0))) (S1.setJ x2 ((0 : Int)).toNat (i2L r1)))) (fun E S9 => (E = "java/lang/IndexOutOfBoundsException" ∧ Q (.inl (some (vI 1))) S9)))
theorem JL_places_0 {d : Nat} {S0 : MS} {Q : Out → MS → Prop} (x0 : Nat) (x1 : Int) (x2 : Nat) (S : MS) (h : VL_places_0 d Q x0 x1 x2 S) : Jw FinM RL cL_places 4 (some .int) [(0, 9, 12, 31)] yL_places (d + 1) S0 S 0 [(0, vA x0), (1, vI x1), (2, vA x2)] [] Q :=
  j_aload_n 2 dL_places_0 rfl (j_iconst dL_places_1 (j_aload_n 0 dL_places_2 rfl (j_iload_n 1 dL_places_3 rfl (j_callV (rest := [vI 0, vA x2]) 10 [vI x1] k_RL_61 ⟨w_5_224, w_5_225⟩ ⟨_, _, rfl⟩ (by decide) rfl rfl (Nat.le_of_ble_eq_true rfl) dL_places_4 h (kI (fun r1 S1 h => j_i2l dL_places_7 (j_last dL_places_8 h (fun h => j_goto (tgt := 15) dL_places_9 (by decide) (j_iconst dL_places_15 (j_iret rfl dL_places_16 h)))))) (fun E S9 h => by
      rcases h with ⟨rfl, h⟩
      · exact jx_catchR (n := 1) (i := 3) [] ⟨0, 9, 12, 31⟩ [] rfl (List.forall_mem_nil _) (by decide) (by decide) w_5_60 (List.mem_of_getElem? (i := 2) rfl) rfl (by decide) (Or.inl ⟨3, rfl, dL_places_12, dL_places_13, dL_places_14⟩) h)))))
theorem ML_places {d : Nat} {x0 : Nat} {x1 : Int} {x2 : Nat} {S : MS} {Q : Out → MS → Prop} (h : VL_places_0 d Q x0 x1 x2 S) : Mw hL_places yL_places (d + 1) [vA x0, vI x1, vA x2] S Q := Mw.ofJH (by decide) (Nat.le_of_ble_eq_true rfl) (JL_places_0 _ _ _ S h)
theorem dL_mends_0 : decode cL_mends 0 = .ok (.aload_n 2, 1) := by decide +kernel
theorem dL_mends_1 : decode cL_mends 1 = .ok (.iconst 0, 1) := by decide +kernel
theorem dL_mends_2 : decode cL_mends 2 = .ok (.aload_n 0, 1) := by decide +kernel
theorem dL_mends_3 : decode cL_mends 3 = .ok (.iload_n 1, 1) := by decide +kernel
theorem dL_mends_4 : decode cL_mends 4 = .ok (.invokevirtual 64, 3) := by decide +kernel
theorem dL_mends_7 : decode cL_mends 7 = .ok (.i2l, 1) := by decide +kernel
theorem dL_mends_8 : decode cL_mends 8 = .ok (.lastore, 1) := by decide +kernel
theorem dL_mends_9 : decode cL_mends 9 = .ok (.goto 6, 3) := by decide +kernel
theorem dL_mends_12 : decode cL_mends 12 = .ok (.astore_n 3, 1) := by decide +kernel
theorem dL_mends_13 : decode cL_mends 13 = .ok (.iconst 1, 1) := by decide +kernel
theorem dL_mends_14 : decode cL_mends 14 = .ok (.ireturn, 1) := by decide +kernel
theorem dL_mends_15 : decode cL_mends 15 = .ok (.iconst 0, 1) := by decide +kernel
theorem dL_mends_16 : decode cL_mends 16 = .ok (.ireturn, 1) := by decide +kernel
def VL_mends_0 (d : Nat) (Q : Out → MS → Prop) (x0 : Nat) (x1 : Int) (x2 : Nat) (S : MS) : Prop :=
  S.K x0 = 10 ∧ Mw hX10_mends yX10_mends d [vA x0, vI x1] S (xI (fun r1 S1 => (S1.K x2 = 14 ∧ 0 ≤ (0 : Int) ∧ (0 : Int) < S1.N x2) ∧ (Q (.inl (some (vI 0))) (S1.setJ x2 ((0 : Int)).toNat (i2L r1)))) (fun E S9 => (E = "java/lang/IndexOutOfBoundsException" ∧ Q (.inl (some (vI 1))) S9)))
theorem JL_mends_0 {d : Nat} {S0 : MS} {Q : Out → MS → Prop} (x0 : Nat) (x1 : Int) (x2 : Nat) (S : MS) (h : VL_mends_0 d Q x0 x1 x2 S) : Jw FinM RL cL_mends 4 (some .int) [(0, 9, 12, 31)] yL_mends (d + 1) S0 S 0 [(0, vA x0), (1, vI x1), (2, vA x2)] [] Q :=
  j_aload_n 2 dL_mends_0 rfl (j_iconst dL_mends_1 (j_aload_n 0 dL_mends_2 rfl (j_iload_n 1 dL_mends_3 rfl (j_callV (rest := [vI 0, vA x2]) 10 [vI x1] k_RL_64 ⟨w_5_232, w_5_233⟩ ⟨_, _, rfl⟩ (by decide) rfl rfl (Nat.le_of_ble_eq_true rfl) dL_mends_4 h (kI (fun r1 S1 h => j_i2l dL_mends_7 (j_last dL_mends_8 h (fun h => j_goto (tgt := 15) dL_mends_9 (by decide) (j_iconst dL_mends_15 (j_iret rfl dL_mends_16 h)))))) (fun E S9 h => by
      rcases h with ⟨rfl, h⟩
      · exact jx_catchR (n := 1) (i := 3) [] ⟨0, 9, 12, 31⟩ [] rfl (List.forall_mem_nil _) (by decide) (by decide) w_5_60 (List.mem_of_getElem? (i := 2) rfl) rfl (by decide) (Or.inl ⟨3, rfl, dL_mends_12, dL_mends_13, dL_mends_14⟩) h)))))
theorem ML_mends {d : Nat} {x0 : Nat} {x1 : Int} {x2 : Nat} {S : MS} {Q : Out → MS → Prop} (h : VL_mends_0 d Q x0 x1 x2 S) : Mw hL_mends yL_mends (d + 1) [vA x0, vI x1, vA x2] S Q := Mw.ofJH (by decide) (Nat.le_of_ble_eq_true rfl) (JL_mends_0 _ _ _ S h)
theorem dL_nearly_0 : decode cL_nearly 0 = .ok (.aload_n 1, 1) := by decide +kernel
theorem dL_nearly_1 : decode cL_nearly 1 = .ok (.iconst 0, 1) := by decide +kernel
theorem dL_nearly_2 : decode cL_nearly 2 = .ok (.aload_n 0, 1) := by decide +kernel
theorem dL_nearly_3 : decode cL_nearly 3 = .ok (.invokevirtual 67, 3) := by decide +kernel
theorem dL_nearly_6 : decode cL_nearly 6 = .ok (.i2l, 1) := by decide +kernel
theorem dL_nearly_7 : decode cL_nearly 7 = .ok (.lastore, 1) := by decide +kernel
theorem dL_nearly_8 : decode cL_nearly 8 = .ok (.goto 6, 3) := by decide +kernel
theorem dL_nearly_11 : decode cL_nearly 11 = .ok (.astore_n 2, 1) := by decide +kernel
theorem dL_nearly_12 : decode cL_nearly 12 = .ok (.iconst 1, 1) := by decide +kernel
theorem dL_nearly_13 : decode cL_nearly 13 = .ok (.ireturn, 1) := by decide +kernel
theorem dL_nearly_14 : decode cL_nearly 14 = .ok (.iconst 0, 1) := by decide +kernel
theorem dL_nearly_15 : decode cL_nearly 15 = .ok (.ireturn, 1) := by decide +kernel
def VL_nearly_0 (d : Nat) (Q : Out → MS → Prop) (x0 : Nat) (x1 : Nat) (S : MS) : Prop :=
  S.K x0 = 10 ∧ Mw hX10_nearly yX10_nearly d [vA x0] S (xI (fun r1 S1 => (S1.K x1 = 14 ∧ 0 ≤ (0 : Int) ∧ (0 : Int) < S1.N x1) ∧ (Q (.inl (some (vI 0))) (S1.setJ x1 ((0 : Int)).toNat (i2L r1)))) (fun E S9 => (E = "java/lang/IllegalArgumentException" ∧ Q (.inl (some (vI 1))) S9)))
theorem JL_nearly_0 {d : Nat} {S0 : MS} {Q : Out → MS → Prop} (x0 : Nat) (x1 : Nat) (S : MS) (h : VL_nearly_0 d Q x0 x1 S) : Jw FinM RL cL_nearly 3 (some .int) [(0, 8, 11, 13)] yL_nearly (d + 1) S0 S 0 [(0, vA x0), (1, vA x1)] [] Q :=
  j_aload_n 1 dL_nearly_0 rfl (j_iconst dL_nearly_1 (j_aload_n 0 dL_nearly_2 rfl (j_callV (rest := [vI 0, vA x1]) 10 [] k_RL_67 ⟨w_6_4, w_6_5⟩ ⟨_, _, rfl⟩ (by decide) rfl rfl (Nat.le_of_ble_eq_true rfl) dL_nearly_3 h (kI (fun r1 S1 h => j_i2l dL_nearly_6 (j_last dL_nearly_7 h (fun h => j_goto (tgt := 14) dL_nearly_8 (by decide) (j_iconst dL_nearly_14 (j_iret rfl dL_nearly_15 h)))))) (fun E S9 h => by
      rcases h with ⟨rfl, h⟩
      · exact jx_catchR (n := 1) (i := 2) [] ⟨0, 8, 11, 13⟩ [] rfl (List.forall_mem_nil _) (by decide) (by decide) w_4_29 (List.mem_of_getElem? (i := 0) rfl) rfl (by decide) (Or.inl ⟨2, rfl, dL_nearly_11, dL_nearly_12, dL_nearly_13⟩) h))))
theorem ML_nearly {d : Nat} {x0 : Nat} {x1 : Nat} {S : MS} {Q : Out → MS → Prop} (h : VL_nearly_0 d Q x0 x1 S) : Mw hL_nearly yL_nearly (d + 1) [vA x0, vA x1] S Q := Mw.ofJH (by decide) (Nat.le_of_ble_eq_true rfl) (JL_nearly_0 _ _ S h)
theorem dL_votes_0 : decode cL_votes 0 = .ok (.aload_n 2, 1) := by decide +kernel
theorem dL_votes_1 : decode cL_votes 1 = .ok (.iconst 0, 1) := by decide +kernel
theorem dL_votes_2 : decode cL_votes 2 = .ok (.aload_n 0, 1) := by decide +kernel
theorem dL_votes_3 : decode cL_votes 3 = .ok (.iload_n 1, 1) := by decide +kernel
theorem dL_votes_4 : decode cL_votes 4 = .ok (.invokevirtual 70, 3) := by decide +kernel
theorem dL_votes_7 : decode cL_votes 7 = .ok (.i2l, 1) := by decide +kernel
theorem dL_votes_8 : decode cL_votes 8 = .ok (.lastore, 1) := by decide +kernel
theorem dL_votes_9 : decode cL_votes 9 = .ok (.goto 6, 3) := by decide +kernel
theorem dL_votes_12 : decode cL_votes 12 = .ok (.astore_n 3, 1) := by decide +kernel
theorem dL_votes_13 : decode cL_votes 13 = .ok (.iconst 1, 1) := by decide +kernel
theorem dL_votes_14 : decode cL_votes 14 = .ok (.ireturn, 1) := by decide +kernel
theorem dL_votes_15 : decode cL_votes 15 = .ok (.iconst 0, 1) := by decide +kernel
theorem dL_votes_16 : decode cL_votes 16 = .ok (.ireturn, 1) := by decide +kernel
def VL_votes_0 (d : Nat) (Q : Out → MS → Prop) (x0 : Nat) (x1 : Int) (x2 : Nat) (S : MS) : Prop :=
  S.K x0 = 10 ∧ Mw hX10_votes yX10_votes d [vA x0, vI x1] S (xI (fun r1 S1 => (S1.K x2 = 14 ∧ 0 ≤ (0 : Int) ∧ (0 : Int) < S1.N x2) ∧ (Q (.inl (some (vI 0))) (S1.setJ x2 ((0 : Int)).toNat (i2L r1)))) (fun E S9 => (E = "java/lang/IllegalArgumentException" ∧ Q (.inl (some (vI 1))) S9)))
theorem JL_votes_0 {d : Nat} {S0 : MS} {Q : Out → MS → Prop} (x0 : Nat) (x1 : Int) (x2 : Nat) (S : MS) (h : VL_votes_0 d Q x0 x1 x2 S) : Jw FinM RL cL_votes 4 (some .int) [(0, 9, 12, 13)] yL_votes (d + 1) S0 S 0 [(0, vA x0), (1, vI x1), (2, vA x2)] [] Q :=
  j_aload_n 2 dL_votes_0 rfl (j_iconst dL_votes_1 (j_aload_n 0 dL_votes_2 rfl (j_iload_n 1 dL_votes_3 rfl (j_callV (rest := [vI 0, vA x2]) 10 [vI x1] k_RL_70 ⟨w_6_19, w_6_20⟩ ⟨_, _, rfl⟩ (by decide) rfl rfl (Nat.le_of_ble_eq_true rfl) dL_votes_4 h (kI (fun r1 S1 h => j_i2l dL_votes_7 (j_last dL_votes_8 h (fun h => j_goto (tgt := 15) dL_votes_9 (by decide) (j_iconst dL_votes_15 (j_iret rfl dL_votes_16 h)))))) (fun E S9 h => by
      rcases h with ⟨rfl, h⟩
      · exact jx_catchR (n := 1) (i := 3) [] ⟨0, 9, 12, 13⟩ [] rfl (List.forall_mem_nil _) (by decide) (by decide) w_4_29 (List.mem_of_getElem? (i := 0) rfl) rfl (by decide) (Or.inl ⟨3, rfl, dL_votes_12, dL_votes_13, dL_votes_14⟩) h)))))
theorem ML_votes {d : Nat} {x0 : Nat} {x1 : Int} {x2 : Nat} {S : MS} {Q : Out → MS → Prop} (h : VL_votes_0 d Q x0 x1 x2 S) : Mw hL_votes yL_votes (d + 1) [vA x0, vI x1, vA x2] S Q := Mw.ofJH (by decide) (Nat.le_of_ble_eq_true rfl) (JL_votes_0 _ _ _ S h)
theorem dL_laying_0 : decode cL_laying 0 = .ok (.aload 4, 2) := by decide +kernel
theorem dL_laying_2 : decode cL_laying 2 = .ok (.iconst 0, 1) := by decide +kernel
theorem dL_laying_3 : decode cL_laying 3 = .ok (.aload_n 0, 1) := by decide +kernel
theorem dL_laying_4 : decode cL_laying 4 = .ok (.iload_n 1, 1) := by decide +kernel
theorem dL_laying_5 : decode cL_laying 5 = .ok (.iload_n 2, 1) := by decide +kernel
theorem dL_laying_6 : decode cL_laying 6 = .ok (.iload_n 3, 1) := by decide +kernel
theorem dL_laying_7 : decode cL_laying 7 = .ok (.invokevirtual 73, 3) := by decide +kernel
theorem dL_laying_10 : decode cL_laying 10 = .ok (.i2l, 1) := by decide +kernel
theorem dL_laying_11 : decode cL_laying 11 = .ok (.lastore, 1) := by decide +kernel
theorem dL_laying_12 : decode cL_laying 12 = .ok (.goto 11, 3) := by decide +kernel
theorem dL_laying_15 : decode cL_laying 15 = .ok (.astore 5, 2) := by decide +kernel
theorem dL_laying_17 : decode cL_laying 17 = .ok (.iconst 1, 1) := by decide +kernel
theorem dL_laying_18 : decode cL_laying 18 = .ok (.ireturn, 1) := by decide +kernel
theorem dL_laying_19 : decode cL_laying 19 = .ok (.astore 5, 2) := by decide +kernel
theorem dL_laying_21 : decode cL_laying 21 = .ok (.iconst 2, 1) := by decide +kernel
theorem dL_laying_22 : decode cL_laying 22 = .ok (.ireturn, 1) := by decide +kernel
theorem dL_laying_23 : decode cL_laying 23 = .ok (.iconst 0, 1) := by decide +kernel
theorem dL_laying_24 : decode cL_laying 24 = .ok (.ireturn, 1) := by decide +kernel
def VL_laying_0 (d : Nat) (Q : Out → MS → Prop) (x0 : Nat) (x1 : Int) (x2 : Int) (x3 : Int) (x4 : Nat) (S : MS) : Prop :=
  S.K x0 = 10 ∧ Mw hX10_laying yX10_laying d [vA x0, vI x1, vI x2, vI x3] S (xI (fun r1 S1 => (S1.K x4 = 14 ∧ 0 ≤ (0 : Int) ∧ (0 : Int) < S1.N x4) ∧ (Q (.inl (some (vI 0))) (S1.setJ x4 ((0 : Int)).toNat (i2L r1)))) (fun E S9 => (E = "java/lang/IndexOutOfBoundsException" ∧ Q (.inl (some (vI 1))) S9) ∨ (E = "java/lang/IllegalArgumentException" ∧ Q (.inl (some (vI 2))) S9)))
theorem JL_laying_0 {d : Nat} {S0 : MS} {Q : Out → MS → Prop} (x0 : Nat) (x1 : Int) (x2 : Int) (x3 : Int) (x4 : Nat) (S : MS) (h : VL_laying_0 d Q x0 x1 x2 x3 x4 S) : Jw FinM RL cL_laying 6 (some .int) [(0, 12, 15, 31), (0, 12, 19, 13)] yL_laying (d + 1) S0 S 0 [(0, vA x0), (1, vI x1), (2, vI x2), (3, vI x3), (4, vA x4)] [] Q :=
  j_aload 4 dL_laying_0 rfl (j_iconst dL_laying_2 (j_aload_n 0 dL_laying_3 rfl (j_iload_n 1 dL_laying_4 rfl (j_iload_n 2 dL_laying_5 rfl (j_iload_n 3 dL_laying_6 rfl (j_callV (rest := [vI 0, vA x4]) 10 [vI x1, vI x2, vI x3] k_RL_73 ⟨w_6_30, w_6_31⟩ ⟨_, _, rfl⟩ (by decide) rfl rfl (Nat.le_of_ble_eq_true rfl) dL_laying_7 h (kI (fun r1 S1 h => j_i2l dL_laying_10 (j_last dL_laying_11 h (fun h => j_goto (tgt := 23) dL_laying_12 (by decide) (j_iconst dL_laying_23 (j_iret rfl dL_laying_24 h)))))) (fun E S9 h => by
      rcases h with ⟨rfl, h⟩ | ⟨rfl, h⟩
      · exact jx_catchR (n := 1) (i := 5) [] ⟨0, 12, 15, 31⟩ [⟨0, 12, 19, 13⟩] rfl (List.forall_mem_nil _) (by decide) (by decide) w_5_60 (List.mem_of_getElem? (i := 2) rfl) rfl (by decide) (Or.inr ⟨dL_laying_15, dL_laying_17, dL_laying_18⟩) h
      · exact jx_catchR (n := 2) (i := 5) [⟨0, 12, 15, 31⟩] ⟨0, 12, 19, 13⟩ [] rfl (List.forall_mem_cons.mpr ⟨⟨by decide, "java/lang/IndexOutOfBoundsException", w_5_60, List.mem_of_getElem? (i := 1) rfl⟩, (List.forall_mem_nil _)⟩) (by decide) (by decide) w_4_29 (List.mem_of_getElem? (i := 0) rfl) rfl (by decide) (Or.inr ⟨dL_laying_19, dL_laying_21, dL_laying_22⟩) h)))))))
theorem ML_laying {d : Nat} {x0 : Nat} {x1 : Int} {x2 : Int} {x3 : Int} {x4 : Nat} {S : MS} {Q : Out → MS → Prop} (h : VL_laying_0 d Q x0 x1 x2 x3 x4 S) : Mw hL_laying yL_laying (d + 1) [vA x0, vI x1, vI x2, vI x3, vA x4] S Q := Mw.ofJH (by decide) (Nat.le_of_ble_eq_true rfl) (JL_laying_0 _ _ _ _ _ S h)
theorem dL_next_0 : decode cL_next 0 = .ok (.aload_n 2, 1) := by decide +kernel
theorem dL_next_1 : decode cL_next 1 = .ok (.iconst 0, 1) := by decide +kernel
theorem dL_next_2 : decode cL_next 2 = .ok (.aload_n 0, 1) := by decide +kernel
theorem dL_next_3 : decode cL_next 3 = .ok (.iload_n 1, 1) := by decide +kernel
theorem dL_next_4 : decode cL_next 4 = .ok (.invokevirtual 77, 3) := by decide +kernel
theorem dL_next_7 : decode cL_next 7 = .ok (.i2l, 1) := by decide +kernel
theorem dL_next_8 : decode cL_next 8 = .ok (.lastore, 1) := by decide +kernel
theorem dL_next_9 : decode cL_next 9 = .ok (.goto 6, 3) := by decide +kernel
theorem dL_next_12 : decode cL_next 12 = .ok (.astore_n 3, 1) := by decide +kernel
theorem dL_next_13 : decode cL_next 13 = .ok (.iconst 1, 1) := by decide +kernel
theorem dL_next_14 : decode cL_next 14 = .ok (.ireturn, 1) := by decide +kernel
theorem dL_next_15 : decode cL_next 15 = .ok (.iconst 0, 1) := by decide +kernel
theorem dL_next_16 : decode cL_next 16 = .ok (.ireturn, 1) := by decide +kernel
def VL_next_0 (d : Nat) (Q : Out → MS → Prop) (x0 : Nat) (x1 : Int) (x2 : Nat) (S : MS) : Prop :=
  S.K x0 = 10 ∧ Mw hX10_next yX10_next d [vA x0, vI x1] S (xI (fun r1 S1 => (S1.K x2 = 14 ∧ 0 ≤ (0 : Int) ∧ (0 : Int) < S1.N x2) ∧ (Q (.inl (some (vI 0))) (S1.setJ x2 ((0 : Int)).toNat (i2L r1)))) (fun E S9 => (E = "java/lang/IndexOutOfBoundsException" ∧ Q (.inl (some (vI 1))) S9)))
theorem JL_next_0 {d : Nat} {S0 : MS} {Q : Out → MS → Prop} (x0 : Nat) (x1 : Int) (x2 : Nat) (S : MS) (h : VL_next_0 d Q x0 x1 x2 S) : Jw FinM RL cL_next 4 (some .int) [(0, 9, 12, 31)] yL_next (d + 1) S0 S 0 [(0, vA x0), (1, vI x1), (2, vA x2)] [] Q :=
  j_aload_n 2 dL_next_0 rfl (j_iconst dL_next_1 (j_aload_n 0 dL_next_2 rfl (j_iload_n 1 dL_next_3 rfl (j_callV (rest := [vI 0, vA x2]) 10 [vI x1] k_RL_77 ⟨w_6_43, w_6_44⟩ ⟨_, _, rfl⟩ (by decide) rfl rfl (Nat.le_of_ble_eq_true rfl) dL_next_4 h (kI (fun r1 S1 h => j_i2l dL_next_7 (j_last dL_next_8 h (fun h => j_goto (tgt := 15) dL_next_9 (by decide) (j_iconst dL_next_15 (j_iret rfl dL_next_16 h)))))) (fun E S9 h => by
      rcases h with ⟨rfl, h⟩
      · exact jx_catchR (n := 1) (i := 3) [] ⟨0, 9, 12, 31⟩ [] rfl (List.forall_mem_nil _) (by decide) (by decide) w_5_60 (List.mem_of_getElem? (i := 2) rfl) rfl (by decide) (Or.inl ⟨3, rfl, dL_next_12, dL_next_13, dL_next_14⟩) h)))))
theorem ML_next {d : Nat} {x0 : Nat} {x1 : Int} {x2 : Nat} {S : MS} {Q : Out → MS → Prop} (h : VL_next_0 d Q x0 x1 x2 S) : Mw hL_next yL_next (d + 1) [vA x0, vI x1, vA x2] S Q := Mw.ofJH (by decide) (Nat.le_of_ble_eq_true rfl) (JL_next_0 _ _ _ S h)
theorem dL_fewest_0 : decode cL_fewest 0 = .ok (.aload_n 2, 1) := by decide +kernel
theorem dL_fewest_1 : decode cL_fewest 1 = .ok (.iconst 0, 1) := by decide +kernel
theorem dL_fewest_2 : decode cL_fewest 2 = .ok (.aload_n 0, 1) := by decide +kernel
theorem dL_fewest_3 : decode cL_fewest 3 = .ok (.iload_n 1, 1) := by decide +kernel
theorem dL_fewest_4 : decode cL_fewest 4 = .ok (.invokevirtual 80, 3) := by decide +kernel
theorem dL_fewest_7 : decode cL_fewest 7 = .ok (.i2l, 1) := by decide +kernel
theorem dL_fewest_8 : decode cL_fewest 8 = .ok (.lastore, 1) := by decide +kernel
theorem dL_fewest_9 : decode cL_fewest 9 = .ok (.goto 6, 3) := by decide +kernel
theorem dL_fewest_12 : decode cL_fewest 12 = .ok (.astore_n 3, 1) := by decide +kernel
theorem dL_fewest_13 : decode cL_fewest 13 = .ok (.iconst 1, 1) := by decide +kernel
theorem dL_fewest_14 : decode cL_fewest 14 = .ok (.ireturn, 1) := by decide +kernel
theorem dL_fewest_15 : decode cL_fewest 15 = .ok (.iconst 0, 1) := by decide +kernel
theorem dL_fewest_16 : decode cL_fewest 16 = .ok (.ireturn, 1) := by decide +kernel
def VL_fewest_0 (d : Nat) (Q : Out → MS → Prop) (x0 : Nat) (x1 : Int) (x2 : Nat) (S : MS) : Prop :=
  S.K x0 = 10 ∧ Mw hX10_fewest yX10_fewest d [vA x0, vI x1] S (xI (fun r1 S1 => (S1.K x2 = 14 ∧ 0 ≤ (0 : Int) ∧ (0 : Int) < S1.N x2) ∧ (Q (.inl (some (vI 0))) (S1.setJ x2 ((0 : Int)).toNat (i2L r1)))) (fun E S9 => (E = "java/lang/IndexOutOfBoundsException" ∧ Q (.inl (some (vI 1))) S9)))
theorem JL_fewest_0 {d : Nat} {S0 : MS} {Q : Out → MS → Prop} (x0 : Nat) (x1 : Int) (x2 : Nat) (S : MS) (h : VL_fewest_0 d Q x0 x1 x2 S) : Jw FinM RL cL_fewest 4 (some .int) [(0, 9, 12, 31)] yL_fewest (d + 1) S0 S 0 [(0, vA x0), (1, vI x1), (2, vA x2)] [] Q :=
  j_aload_n 2 dL_fewest_0 rfl (j_iconst dL_fewest_1 (j_aload_n 0 dL_fewest_2 rfl (j_iload_n 1 dL_fewest_3 rfl (j_callV (rest := [vI 0, vA x2]) 10 [vI x1] k_RL_80 ⟨w_6_55, w_6_56⟩ ⟨_, _, rfl⟩ (by decide) rfl rfl (Nat.le_of_ble_eq_true rfl) dL_fewest_4 h (kI (fun r1 S1 h => j_i2l dL_fewest_7 (j_last dL_fewest_8 h (fun h => j_goto (tgt := 15) dL_fewest_9 (by decide) (j_iconst dL_fewest_15 (j_iret rfl dL_fewest_16 h)))))) (fun E S9 h => by
      rcases h with ⟨rfl, h⟩
      · exact jx_catchR (n := 1) (i := 3) [] ⟨0, 9, 12, 31⟩ [] rfl (List.forall_mem_nil _) (by decide) (by decide) w_5_60 (List.mem_of_getElem? (i := 2) rfl) rfl (by decide) (Or.inl ⟨3, rfl, dL_fewest_12, dL_fewest_13, dL_fewest_14⟩) h)))))
theorem ML_fewest {d : Nat} {x0 : Nat} {x1 : Int} {x2 : Nat} {S : MS} {Q : Out → MS → Prop} (h : VL_fewest_0 d Q x0 x1 x2 S) : Mw hL_fewest yL_fewest (d + 1) [vA x0, vI x1, vA x2] S Q := Mw.ofJH (by decide) (Nat.le_of_ble_eq_true rfl) (JL_fewest_0 _ _ _ S h)
theorem dL_bound_0 : decode cL_bound 0 = .ok (.aload_n 2, 1) := by decide +kernel
theorem dL_bound_1 : decode cL_bound 1 = .ok (.iconst 0, 1) := by decide +kernel
theorem dL_bound_2 : decode cL_bound 2 = .ok (.aload_n 0, 1) := by decide +kernel
theorem dL_bound_3 : decode cL_bound 3 = .ok (.iload_n 1, 1) := by decide +kernel
theorem dL_bound_4 : decode cL_bound 4 = .ok (.invokevirtual 83, 3) := by decide +kernel
theorem dL_bound_7 : decode cL_bound 7 = .ok (.i2l, 1) := by decide +kernel
theorem dL_bound_8 : decode cL_bound 8 = .ok (.lastore, 1) := by decide +kernel
theorem dL_bound_9 : decode cL_bound 9 = .ok (.goto 6, 3) := by decide +kernel
theorem dL_bound_12 : decode cL_bound 12 = .ok (.astore_n 3, 1) := by decide +kernel
theorem dL_bound_13 : decode cL_bound 13 = .ok (.iconst 1, 1) := by decide +kernel
theorem dL_bound_14 : decode cL_bound 14 = .ok (.ireturn, 1) := by decide +kernel
theorem dL_bound_15 : decode cL_bound 15 = .ok (.iconst 0, 1) := by decide +kernel
theorem dL_bound_16 : decode cL_bound 16 = .ok (.ireturn, 1) := by decide +kernel
def VL_bound_0 (d : Nat) (Q : Out → MS → Prop) (x0 : Nat) (x1 : Int) (x2 : Nat) (S : MS) : Prop :=
  S.K x0 = 10 ∧ Mw hX10_bound yX10_bound d [vA x0, vI x1] S (xI (fun r1 S1 => (S1.K x2 = 14 ∧ 0 ≤ (0 : Int) ∧ (0 : Int) < S1.N x2) ∧ (Q (.inl (some (vI 0))) (S1.setJ x2 ((0 : Int)).toNat (i2L r1)))) (fun E S9 => (E = "java/lang/IndexOutOfBoundsException" ∧ Q (.inl (some (vI 1))) S9)))
theorem JL_bound_0 {d : Nat} {S0 : MS} {Q : Out → MS → Prop} (x0 : Nat) (x1 : Int) (x2 : Nat) (S : MS) (h : VL_bound_0 d Q x0 x1 x2 S) : Jw FinM RL cL_bound 4 (some .int) [(0, 9, 12, 31)] yL_bound (d + 1) S0 S 0 [(0, vA x0), (1, vI x1), (2, vA x2)] [] Q :=
  j_aload_n 2 dL_bound_0 rfl (j_iconst dL_bound_1 (j_aload_n 0 dL_bound_2 rfl (j_iload_n 1 dL_bound_3 rfl (j_callV (rest := [vI 0, vA x2]) 10 [vI x1] k_RL_83 ⟨w_6_90, w_6_91⟩ ⟨_, _, rfl⟩ (by decide) rfl rfl (Nat.le_of_ble_eq_true rfl) dL_bound_4 h (kI (fun r1 S1 h => j_i2l dL_bound_7 (j_last dL_bound_8 h (fun h => j_goto (tgt := 15) dL_bound_9 (by decide) (j_iconst dL_bound_15 (j_iret rfl dL_bound_16 h)))))) (fun E S9 h => by
      rcases h with ⟨rfl, h⟩
      · exact jx_catchR (n := 1) (i := 3) [] ⟨0, 9, 12, 31⟩ [] rfl (List.forall_mem_nil _) (by decide) (by decide) w_5_60 (List.mem_of_getElem? (i := 2) rfl) rfl (by decide) (Or.inl ⟨3, rfl, dL_bound_12, dL_bound_13, dL_bound_14⟩) h)))))
theorem ML_bound {d : Nat} {x0 : Nat} {x1 : Int} {x2 : Nat} {S : MS} {Q : Out → MS → Prop} (h : VL_bound_0 d Q x0 x1 x2 S) : Mw hL_bound yL_bound (d + 1) [vA x0, vI x1, vA x2] S Q := Mw.ofJH (by decide) (Nat.le_of_ble_eq_true rfl) (JL_bound_0 _ _ _ S h)
theorem dL_byNext_0 : decode cL_byNext 0 = .ok (.aload_n 2, 1) := by decide +kernel
theorem dL_byNext_1 : decode cL_byNext 1 = .ok (.iconst 0, 1) := by decide +kernel
theorem dL_byNext_2 : decode cL_byNext 2 = .ok (.aload_n 0, 1) := by decide +kernel
theorem dL_byNext_3 : decode cL_byNext 3 = .ok (.iload_n 1, 1) := by decide +kernel
theorem dL_byNext_4 : decode cL_byNext 4 = .ok (.invokevirtual 86, 3) := by decide +kernel
theorem dL_byNext_7 : decode cL_byNext 7 = .ok (.i2l, 1) := by decide +kernel
theorem dL_byNext_8 : decode cL_byNext 8 = .ok (.lastore, 1) := by decide +kernel
theorem dL_byNext_9 : decode cL_byNext 9 = .ok (.goto 6, 3) := by decide +kernel
theorem dL_byNext_12 : decode cL_byNext 12 = .ok (.astore_n 3, 1) := by decide +kernel
theorem dL_byNext_13 : decode cL_byNext 13 = .ok (.iconst 1, 1) := by decide +kernel
theorem dL_byNext_14 : decode cL_byNext 14 = .ok (.ireturn, 1) := by decide +kernel
theorem dL_byNext_15 : decode cL_byNext 15 = .ok (.iconst 0, 1) := by decide +kernel
theorem dL_byNext_16 : decode cL_byNext 16 = .ok (.ireturn, 1) := by decide +kernel
def VL_byNext_0 (d : Nat) (Q : Out → MS → Prop) (x0 : Nat) (x1 : Int) (x2 : Nat) (S : MS) : Prop :=
  S.K x0 = 10 ∧ Mw hX10_byNext yX10_byNext d [vA x0, vI x1] S (xI (fun r1 S1 => (S1.K x2 = 14 ∧ 0 ≤ (0 : Int) ∧ (0 : Int) < S1.N x2) ∧ (Q (.inl (some (vI 0))) (S1.setJ x2 ((0 : Int)).toNat (i2L r1)))) (fun E S9 => (E = "java/lang/IndexOutOfBoundsException" ∧ Q (.inl (some (vI 1))) S9)))
theorem JL_byNext_0 {d : Nat} {S0 : MS} {Q : Out → MS → Prop} (x0 : Nat) (x1 : Int) (x2 : Nat) (S : MS) (h : VL_byNext_0 d Q x0 x1 x2 S) : Jw FinM RL cL_byNext 4 (some .int) [(0, 9, 12, 31)] yL_byNext (d + 1) S0 S 0 [(0, vA x0), (1, vI x1), (2, vA x2)] [] Q :=
  j_aload_n 2 dL_byNext_0 rfl (j_iconst dL_byNext_1 (j_aload_n 0 dL_byNext_2 rfl (j_iload_n 1 dL_byNext_3 rfl (j_callV (rest := [vI 0, vA x2]) 10 [vI x1] k_RL_86 ⟨w_6_98, w_6_99⟩ ⟨_, _, rfl⟩ (by decide) rfl rfl (Nat.le_of_ble_eq_true rfl) dL_byNext_4 h (kI (fun r1 S1 h => j_i2l dL_byNext_7 (j_last dL_byNext_8 h (fun h => j_goto (tgt := 15) dL_byNext_9 (by decide) (j_iconst dL_byNext_15 (j_iret rfl dL_byNext_16 h)))))) (fun E S9 h => by
      rcases h with ⟨rfl, h⟩
      · exact jx_catchR (n := 1) (i := 3) [] ⟨0, 9, 12, 31⟩ [] rfl (List.forall_mem_nil _) (by decide) (by decide) w_5_60 (List.mem_of_getElem? (i := 2) rfl) rfl (by decide) (Or.inl ⟨3, rfl, dL_byNext_12, dL_byNext_13, dL_byNext_14⟩) h)))))
theorem ML_byNext {d : Nat} {x0 : Nat} {x1 : Int} {x2 : Nat} {S : MS} {Q : Out → MS → Prop} (h : VL_byNext_0 d Q x0 x1 x2 S) : Mw hL_byNext yL_byNext (d + 1) [vA x0, vI x1, vA x2] S Q := Mw.ofJH (by decide) (Nat.le_of_ble_eq_true rfl) (JL_byNext_0 _ _ _ S h)
theorem dL_wants_0 : decode cL_wants 0 = .ok (.aload_n 3, 1) := by decide +kernel
theorem dL_wants_1 : decode cL_wants 1 = .ok (.iconst 0, 1) := by decide +kernel
theorem dL_wants_2 : decode cL_wants 2 = .ok (.aload_n 0, 1) := by decide +kernel
theorem dL_wants_3 : decode cL_wants 3 = .ok (.iload_n 1, 1) := by decide +kernel
theorem dL_wants_4 : decode cL_wants 4 = .ok (.iload_n 2, 1) := by decide +kernel
theorem dL_wants_5 : decode cL_wants 5 = .ok (.invokevirtual 89, 3) := by decide +kernel
theorem dL_wants_8 : decode cL_wants 8 = .ok (.ifCond .eq 7, 3) := by decide +kernel
theorem dL_wants_11 : decode cL_wants 11 = .ok (.lconst 1, 1) := by decide +kernel
theorem dL_wants_12 : decode cL_wants 12 = .ok (.goto 4, 3) := by decide +kernel
theorem dL_wants_15 : decode cL_wants 15 = .ok (.lconst 0, 1) := by decide +kernel
theorem dL_wants_16 : decode cL_wants 16 = .ok (.lastore, 1) := by decide +kernel
theorem dL_wants_17 : decode cL_wants 17 = .ok (.goto 11, 3) := by decide +kernel
theorem dL_wants_20 : decode cL_wants 20 = .ok (.astore 4, 2) := by decide +kernel
theorem dL_wants_22 : decode cL_wants 22 = .ok (.iconst 1, 1) := by decide +kernel
theorem dL_wants_23 : decode cL_wants 23 = .ok (.ireturn, 1) := by decide +kernel
theorem dL_wants_24 : decode cL_wants 24 = .ok (.astore 4, 2) := by decide +kernel
theorem dL_wants_26 : decode cL_wants 26 = .ok (.iconst 2, 1) := by decide +kernel
theorem dL_wants_27 : decode cL_wants 27 = .ok (.ireturn, 1) := by decide +kernel
theorem dL_wants_28 : decode cL_wants 28 = .ok (.iconst 0, 1) := by decide +kernel
theorem dL_wants_29 : decode cL_wants 29 = .ok (.ireturn, 1) := by decide +kernel
def VL_wants_16 (d : Nat) (Q : Out → MS → Prop) (t0 : BitVec 64) (t1 : Int) (t2 : Nat) (S : MS) : Prop :=
  (S.K t2 = 14 ∧ 0 ≤ t1 ∧ t1 < S.N t2) ∧ (Q (.inl (some (vI 0))) (S.setJ t2 (t1).toNat t0))
theorem JL_wants_16 {d : Nat} {S0 : MS} {Q : Out → MS → Prop} (t0 : BitVec 64) (t1 : Int) (t2 : Nat) (S : MS) (h : VL_wants_16 d Q t0 t1 t2 S) : Jw FinM RL cL_wants 5 (some .int) [(0, 17, 20, 31), (0, 17, 24, 42)] yL_wants (d + 1) S0 S 16 [] [vL t0, vI t1, vA t2] Q :=
  j_last dL_wants_16 h (fun h => j_goto (tgt := 28) dL_wants_17 (by decide) (j_iconst dL_wants_28 (j_iret rfl dL_wants_29 h)))
def VL_wants_0 (d : Nat) (Q : Out → MS → Prop) (x0 : Nat) (x1 : Int) (x2 : Int) (x3 : Nat) (S : MS) : Prop :=
  S.K x0 = 10 ∧ Mw hX10_wants yX10_wants d [vA x0, vI x1, vI x2] S (xI (fun r1 S1 => R32 r1 ∧ ((r1 = 0) → VL_wants_16 d Q (0#64) 0 x3 S1) ∧ (¬ (r1 = 0) → VL_wants_16 d Q (1#64) 0 x3 S1)) (fun E S9 => (E = "java/lang/IndexOutOfBoundsException" ∧ Q (.inl (some (vI 1))) S9) ∨ (E = "java/util/NoSuchElementException" ∧ Q (.inl (some (vI 2))) S9)))
theorem JL_wants_0 {d : Nat} {S0 : MS} {Q : Out → MS → Prop} (x0 : Nat) (x1 : Int) (x2 : Int) (x3 : Nat) (S : MS) (h : VL_wants_0 d Q x0 x1 x2 x3 S) : Jw FinM RL cL_wants 5 (some .int) [(0, 17, 20, 31), (0, 17, 24, 42)] yL_wants (d + 1) S0 S 0 [(0, vA x0), (1, vI x1), (2, vI x2), (3, vA x3)] [] Q :=
  j_aload_n 3 dL_wants_0 rfl (j_iconst dL_wants_1 (j_aload_n 0 dL_wants_2 rfl (j_iload_n 1 dL_wants_3 rfl (j_iload_n 2 dL_wants_4 rfl (j_callV (rest := [vI 0, vA x3]) 10 [vI x1, vI x2] k_RL_89 ⟨w_6_105, w_6_106⟩ ⟨_, _, rfl⟩ (by decide) rfl rfl (Nat.le_of_ble_eq_true rfl) dL_wants_5 h (kI (fun r1 S1 h => j_if_eq (tgt := 15) dL_wants_8 (by decide) h (fun h => j_lconst dL_wants_15 rfl (j_sub [] rfl (JL_wants_16 _ _ _ _ h))) (fun h => j_lconst dL_wants_11 rfl (j_goto (tgt := 16) dL_wants_12 (by decide) (j_sub [] rfl (JL_wants_16 _ _ _ _ h)))))) (fun E S9 h => by
      rcases h with ⟨rfl, h⟩ | ⟨rfl, h⟩
      · exact jx_catchR (n := 1) (i := 4) [] ⟨0, 17, 20, 31⟩ [⟨0, 17, 24, 42⟩] rfl (List.forall_mem_nil _) (by decide) (by decide) w_5_60 (List.mem_of_getElem? (i := 2) rfl) rfl (by decide) (Or.inr ⟨dL_wants_20, dL_wants_22, dL_wants_23⟩) h
      · exact jx_catchR (n := 2) (i := 4) [⟨0, 17, 20, 31⟩] ⟨0, 17, 24, 42⟩ [] rfl (List.forall_mem_cons.mpr ⟨⟨by decide, "java/lang/IndexOutOfBoundsException", w_5_60, List.mem_of_getElem? (i := 18) rfl⟩, (List.forall_mem_nil _)⟩) (by decide) (by decide) w_5_127 (List.mem_of_getElem? (i := 4) rfl) rfl (by decide) (Or.inr ⟨dL_wants_24, dL_wants_26, dL_wants_27⟩) h))))))
theorem ML_wants {d : Nat} {x0 : Nat} {x1 : Int} {x2 : Int} {x3 : Nat} {S : MS} {Q : Out → MS → Prop} (h : VL_wants_0 d Q x0 x1 x2 x3 S) : Mw hL_wants yL_wants (d + 1) [vA x0, vI x1, vI x2, vA x3] S Q := Mw.ofJH (by decide) (Nat.le_of_ble_eq_true rfl) (JL_wants_0 _ _ _ _ S h)
theorem dL_plain_0 : decode cL_plain 0 = .ok (.aload_n 3, 1) := by decide +kernel
theorem dL_plain_1 : decode cL_plain 1 = .ok (.iconst 0, 1) := by decide +kernel
theorem dL_plain_2 : decode cL_plain 2 = .ok (.aload_n 0, 1) := by decide +kernel
theorem dL_plain_3 : decode cL_plain 3 = .ok (.iload_n 1, 1) := by decide +kernel
theorem dL_plain_4 : decode cL_plain 4 = .ok (.iload_n 2, 1) := by decide +kernel
theorem dL_plain_5 : decode cL_plain 5 = .ok (.invokevirtual 93, 3) := by decide +kernel
theorem dL_plain_8 : decode cL_plain 8 = .ok (.i2l, 1) := by decide +kernel
theorem dL_plain_9 : decode cL_plain 9 = .ok (.lastore, 1) := by decide +kernel
theorem dL_plain_10 : decode cL_plain 10 = .ok (.goto 11, 3) := by decide +kernel
theorem dL_plain_13 : decode cL_plain 13 = .ok (.astore 4, 2) := by decide +kernel
theorem dL_plain_15 : decode cL_plain 15 = .ok (.iconst 1, 1) := by decide +kernel
theorem dL_plain_16 : decode cL_plain 16 = .ok (.ireturn, 1) := by decide +kernel
theorem dL_plain_17 : decode cL_plain 17 = .ok (.astore 4, 2) := by decide +kernel
theorem dL_plain_19 : decode cL_plain 19 = .ok (.iconst 2, 1) := by decide +kernel
theorem dL_plain_20 : decode cL_plain 20 = .ok (.ireturn, 1) := by decide +kernel
theorem dL_plain_21 : decode cL_plain 21 = .ok (.iconst 0, 1) := by decide +kernel
theorem dL_plain_22 : decode cL_plain 22 = .ok (.ireturn, 1) := by decide +kernel
def VL_plain_0 (d : Nat) (Q : Out → MS → Prop) (x0 : Nat) (x1 : Int) (x2 : Int) (x3 : Nat) (S : MS) : Prop :=
  S.K x0 = 10 ∧ Mw hX10_plain yX10_plain d [vA x0, vI x1, vI x2] S (xI (fun r1 S1 => (S1.K x3 = 14 ∧ 0 ≤ (0 : Int) ∧ (0 : Int) < S1.N x3) ∧ (Q (.inl (some (vI 0))) (S1.setJ x3 ((0 : Int)).toNat (i2L r1)))) (fun E S9 => (E = "java/lang/IndexOutOfBoundsException" ∧ Q (.inl (some (vI 1))) S9) ∨ (E = "java/lang/IllegalArgumentException" ∧ Q (.inl (some (vI 2))) S9)))
theorem JL_plain_0 {d : Nat} {S0 : MS} {Q : Out → MS → Prop} (x0 : Nat) (x1 : Int) (x2 : Int) (x3 : Nat) (S : MS) (h : VL_plain_0 d Q x0 x1 x2 x3 S) : Jw FinM RL cL_plain 5 (some .int) [(0, 10, 13, 31), (0, 10, 17, 13)] yL_plain (d + 1) S0 S 0 [(0, vA x0), (1, vI x1), (2, vI x2), (3, vA x3)] [] Q :=
  j_aload_n 3 dL_plain_0 rfl (j_iconst dL_plain_1 (j_aload_n 0 dL_plain_2 rfl (j_iload_n 1 dL_plain_3 rfl (j_iload_n 2 dL_plain_4 rfl (j_callV (rest := [vI 0, vA x3]) 10 [vI x1, vI x2] k_RL_93 ⟨w_6_116, w_6_117⟩ ⟨_, _, rfl⟩ (by decide) rfl rfl (Nat.le_of_ble_eq_true rfl) dL_plain_5 h (kI (fun r1 S1 h => j_i2l dL_plain_8 (j_last dL_plain_9 h (fun h => j_goto (tgt := 21) dL_plain_10 (by decide) (j_iconst dL_plain_21 (j_iret rfl dL_plain_22 h)))))) (fun E S9 h => by
      rcases h with ⟨rfl, h⟩ | ⟨rfl, h⟩
      · exact jx_catchR (n := 1) (i := 4) [] ⟨0, 10, 13, 31⟩ [⟨0, 10, 17, 13⟩] rfl (List.forall_mem_nil _) (by decide) (by decide) w_5_60 (List.mem_of_getElem? (i := 2) rfl) rfl (by decide) (Or.inr ⟨dL_plain_13, dL_plain_15, dL_plain_16⟩) h
      · exact jx_catchR (n := 2) (i := 4) [⟨0, 10, 13, 31⟩] ⟨0, 10, 17, 13⟩ [] rfl (List.forall_mem_cons.mpr ⟨⟨by decide, "java/lang/IndexOutOfBoundsException", w_5_60, List.mem_of_getElem? (i := 1) rfl⟩, (List.forall_mem_nil _)⟩) (by decide) (by decide) w_4_29 (List.mem_of_getElem? (i := 0) rfl) rfl (by decide) (Or.inr ⟨dL_plain_17, dL_plain_19, dL_plain_20⟩) h))))))
theorem ML_plain {d : Nat} {x0 : Nat} {x1 : Int} {x2 : Int} {x3 : Nat} {S : MS} {Q : Out → MS → Prop} (h : VL_plain_0 d Q x0 x1 x2 x3 S) : Mw hL_plain yL_plain (d + 1) [vA x0, vI x1, vI x2, vA x3] S Q := Mw.ofJH (by decide) (Nat.le_of_ble_eq_true rfl) (JL_plain_0 _ _ _ _ S h)
theorem dL_sorted_0 : decode cL_sorted 0 = .ok (.aload_n 2, 1) := by decide +kernel
theorem dL_sorted_1 : decode cL_sorted 1 = .ok (.iconst 0, 1) := by decide +kernel
theorem dL_sorted_2 : decode cL_sorted 2 = .ok (.aload_n 0, 1) := by decide +kernel
theorem dL_sorted_3 : decode cL_sorted 3 = .ok (.iload_n 1, 1) := by decide +kernel
theorem dL_sorted_4 : decode cL_sorted 4 = .ok (.invokevirtual 96, 3) := by decide +kernel
theorem dL_sorted_7 : decode cL_sorted 7 = .ok (.i2l, 1) := by decide +kernel
theorem dL_sorted_8 : decode cL_sorted 8 = .ok (.lastore, 1) := by decide +kernel
theorem dL_sorted_9 : decode cL_sorted 9 = .ok (.goto 6, 3) := by decide +kernel
theorem dL_sorted_12 : decode cL_sorted 12 = .ok (.astore_n 3, 1) := by decide +kernel
theorem dL_sorted_13 : decode cL_sorted 13 = .ok (.iconst 1, 1) := by decide +kernel
theorem dL_sorted_14 : decode cL_sorted 14 = .ok (.ireturn, 1) := by decide +kernel
theorem dL_sorted_15 : decode cL_sorted 15 = .ok (.iconst 0, 1) := by decide +kernel
theorem dL_sorted_16 : decode cL_sorted 16 = .ok (.ireturn, 1) := by decide +kernel
def VL_sorted_0 (d : Nat) (Q : Out → MS → Prop) (x0 : Nat) (x1 : Int) (x2 : Nat) (S : MS) : Prop :=
  S.K x0 = 10 ∧ Mw hX10_sorted yX10_sorted d [vA x0, vI x1] S (xI (fun r1 S1 => (S1.K x2 = 14 ∧ 0 ≤ (0 : Int) ∧ (0 : Int) < S1.N x2) ∧ (Q (.inl (some (vI 0))) (S1.setJ x2 ((0 : Int)).toNat (i2L r1)))) (fun E S9 => (E = "java/lang/IndexOutOfBoundsException" ∧ Q (.inl (some (vI 1))) S9)))
theorem JL_sorted_0 {d : Nat} {S0 : MS} {Q : Out → MS → Prop} (x0 : Nat) (x1 : Int) (x2 : Nat) (S : MS) (h : VL_sorted_0 d Q x0 x1 x2 S) : Jw FinM RL cL_sorted 4 (some .int) [(0, 9, 12, 31)] yL_sorted (d + 1) S0 S 0 [(0, vA x0), (1, vI x1), (2, vA x2)] [] Q :=
  j_aload_n 2 dL_sorted_0 rfl (j_iconst dL_sorted_1 (j_aload_n 0 dL_sorted_2 rfl (j_iload_n 1 dL_sorted_3 rfl (j_callV (rest := [vI 0, vA x2]) 10 [vI x1] k_RL_96 ⟨w_6_123, w_6_124⟩ ⟨_, _, rfl⟩ (by decide) rfl rfl (Nat.le_of_ble_eq_true rfl) dL_sorted_4 h (kI (fun r1 S1 h => j_i2l dL_sorted_7 (j_last dL_sorted_8 h (fun h => j_goto (tgt := 15) dL_sorted_9 (by decide) (j_iconst dL_sorted_15 (j_iret rfl dL_sorted_16 h)))))) (fun E S9 h => by
      rcases h with ⟨rfl, h⟩
      · exact jx_catchR (n := 1) (i := 3) [] ⟨0, 9, 12, 31⟩ [] rfl (List.forall_mem_nil _) (by decide) (by decide) w_5_60 (List.mem_of_getElem? (i := 2) rfl) rfl (by decide) (Or.inl ⟨3, rfl, dL_sorted_12, dL_sorted_13, dL_sorted_14⟩) h)))))
theorem ML_sorted {d : Nat} {x0 : Nat} {x1 : Int} {x2 : Nat} {S : MS} {Q : Out → MS → Prop} (h : VL_sorted_0 d Q x0 x1 x2 S) : Mw hL_sorted yL_sorted (d + 1) [vA x0, vI x1, vA x2] S Q := Mw.ofJH (by decide) (Nat.le_of_ble_eq_true rfl) (JL_sorted_0 _ _ _ S h)
theorem dL_grown_0 : decode cL_grown 0 = .ok (.aload_n 2, 1) := by decide +kernel
theorem dL_grown_1 : decode cL_grown 1 = .ok (.iconst 0, 1) := by decide +kernel
theorem dL_grown_2 : decode cL_grown 2 = .ok (.aload_n 0, 1) := by decide +kernel
theorem dL_grown_3 : decode cL_grown 3 = .ok (.iload_n 1, 1) := by decide +kernel
theorem dL_grown_4 : decode cL_grown 4 = .ok (.invokevirtual 99, 3) := by decide +kernel
theorem dL_grown_7 : decode cL_grown 7 = .ok (.i2l, 1) := by decide +kernel
theorem dL_grown_8 : decode cL_grown 8 = .ok (.lastore, 1) := by decide +kernel
theorem dL_grown_9 : decode cL_grown 9 = .ok (.goto 6, 3) := by decide +kernel
theorem dL_grown_12 : decode cL_grown 12 = .ok (.astore_n 3, 1) := by decide +kernel
theorem dL_grown_13 : decode cL_grown 13 = .ok (.iconst 1, 1) := by decide +kernel
theorem dL_grown_14 : decode cL_grown 14 = .ok (.ireturn, 1) := by decide +kernel
theorem dL_grown_15 : decode cL_grown 15 = .ok (.iconst 0, 1) := by decide +kernel
theorem dL_grown_16 : decode cL_grown 16 = .ok (.ireturn, 1) := by decide +kernel
def VL_grown_0 (d : Nat) (Q : Out → MS → Prop) (x0 : Nat) (x1 : Int) (x2 : Nat) (S : MS) : Prop :=
  S.K x0 = 10 ∧ Mw hX10_grown yX10_grown d [vA x0, vI x1] S (xI (fun r1 S1 => (S1.K x2 = 14 ∧ 0 ≤ (0 : Int) ∧ (0 : Int) < S1.N x2) ∧ (Q (.inl (some (vI 0))) (S1.setJ x2 ((0 : Int)).toNat (i2L r1)))) (fun E S9 => (E = "java/lang/IndexOutOfBoundsException" ∧ Q (.inl (some (vI 1))) S9)))
theorem JL_grown_0 {d : Nat} {S0 : MS} {Q : Out → MS → Prop} (x0 : Nat) (x1 : Int) (x2 : Nat) (S : MS) (h : VL_grown_0 d Q x0 x1 x2 S) : Jw FinM RL cL_grown 4 (some .int) [(0, 9, 12, 31)] yL_grown (d + 1) S0 S 0 [(0, vA x0), (1, vI x1), (2, vA x2)] [] Q :=
  j_aload_n 2 dL_grown_0 rfl (j_iconst dL_grown_1 (j_aload_n 0 dL_grown_2 rfl (j_iload_n 1 dL_grown_3 rfl (j_callV (rest := [vI 0, vA x2]) 10 [vI x1] k_RL_99 ⟨w_6_144, w_6_145⟩ ⟨_, _, rfl⟩ (by decide) rfl rfl (Nat.le_of_ble_eq_true rfl) dL_grown_4 h (kI (fun r1 S1 h => j_i2l dL_grown_7 (j_last dL_grown_8 h (fun h => j_goto (tgt := 15) dL_grown_9 (by decide) (j_iconst dL_grown_15 (j_iret rfl dL_grown_16 h)))))) (fun E S9 h => by
      rcases h with ⟨rfl, h⟩
      · exact jx_catchR (n := 1) (i := 3) [] ⟨0, 9, 12, 31⟩ [] rfl (List.forall_mem_nil _) (by decide) (by decide) w_5_60 (List.mem_of_getElem? (i := 2) rfl) rfl (by decide) (Or.inl ⟨3, rfl, dL_grown_12, dL_grown_13, dL_grown_14⟩) h)))))
theorem ML_grown {d : Nat} {x0 : Nat} {x1 : Int} {x2 : Nat} {S : MS} {Q : Out → MS → Prop} (h : VL_grown_0 d Q x0 x1 x2 S) : Mw hL_grown yL_grown (d + 1) [vA x0, vI x1, vA x2] S Q := Mw.ofJH (by decide) (Nat.le_of_ble_eq_true rfl) (JL_grown_0 _ _ _ S h)
theorem dL_played_0 : decode cL_played 0 = .ok (.aload 5, 2) := by decide +kernel
theorem dL_played_2 : decode cL_played 2 = .ok (.iconst 0, 1) := by decide +kernel
theorem dL_played_3 : decode cL_played 3 = .ok (.aload_n 0, 1) := by decide +kernel
theorem dL_played_4 : decode cL_played 4 = .ok (.iload_n 1, 1) := by decide +kernel
theorem dL_played_5 : decode cL_played 5 = .ok (.iload_n 2, 1) := by decide +kernel
theorem dL_played_6 : decode cL_played 6 = .ok (.iload_n 3, 1) := by decide +kernel
theorem dL_played_7 : decode cL_played 7 = .ok (.iload 4, 2) := by decide +kernel
theorem dL_played_9 : decode cL_played 9 = .ok (.invokevirtual 102, 3) := by decide +kernel
theorem dL_played_12 : decode cL_played 12 = .ok (.i2l, 1) := by decide +kernel
theorem dL_played_13 : decode cL_played 13 = .ok (.lastore, 1) := by decide +kernel
theorem dL_played_14 : decode cL_played 14 = .ok (.goto 15, 3) := by decide +kernel
theorem dL_played_17 : decode cL_played 17 = .ok (.astore 6, 2) := by decide +kernel
theorem dL_played_19 : decode cL_played 19 = .ok (.iconst 1, 1) := by decide +kernel
theorem dL_played_20 : decode cL_played 20 = .ok (.ireturn, 1) := by decide +kernel
theorem dL_played_21 : decode cL_played 21 = .ok (.astore 6, 2) := by decide +kernel
theorem dL_played_23 : decode cL_played 23 = .ok (.iconst 2, 1) := by decide +kernel
theorem dL_played_24 : decode cL_played 24 = .ok (.ireturn, 1) := by decide +kernel
theorem dL_played_25 : decode cL_played 25 = .ok (.astore 6, 2) := by decide +kernel
theorem dL_played_27 : decode cL_played 27 = .ok (.iconst 3, 1) := by decide +kernel
theorem dL_played_28 : decode cL_played 28 = .ok (.ireturn, 1) := by decide +kernel
theorem dL_played_29 : decode cL_played 29 = .ok (.iconst 0, 1) := by decide +kernel
theorem dL_played_30 : decode cL_played 30 = .ok (.ireturn, 1) := by decide +kernel
def VL_played_0 (d : Nat) (Q : Out → MS → Prop) (x0 : Nat) (x1 : Int) (x2 : Int) (x3 : Int) (x4 : Int) (x5 : Nat) (S : MS) : Prop :=
  S.K x0 = 10 ∧ Mw hX10_played yX10_played d [vA x0, vI x1, vI x2, vI x3, vI x4] S (xI (fun r1 S1 => (S1.K x5 = 14 ∧ 0 ≤ (0 : Int) ∧ (0 : Int) < S1.N x5) ∧ (Q (.inl (some (vI 0))) (S1.setJ x5 ((0 : Int)).toNat (i2L r1)))) (fun E S9 => (E = "java/lang/IndexOutOfBoundsException" ∧ Q (.inl (some (vI 1))) S9) ∨ (E = "java/lang/IllegalArgumentException" ∧ Q (.inl (some (vI 2))) S9) ∨ (E = "java/util/NoSuchElementException" ∧ Q (.inl (some (vI 3))) S9)))
theorem JL_played_0 {d : Nat} {S0 : MS} {Q : Out → MS → Prop} (x0 : Nat) (x1 : Int) (x2 : Int) (x3 : Int) (x4 : Int) (x5 : Nat) (S : MS) (h : VL_played_0 d Q x0 x1 x2 x3 x4 x5 S) : Jw FinM RL cL_played 7 (some .int) [(0, 14, 17, 31), (0, 14, 21, 13), (0, 14, 25, 42)] yL_played (d + 1) S0 S 0 [(0, vA x0), (1, vI x1), (2, vI x2), (3, vI x3), (4, vI x4), (5, vA x5)] [] Q :=
  j_aload 5 dL_played_0 rfl (j_iconst dL_played_2 (j_aload_n 0 dL_played_3 rfl (j_iload_n 1 dL_played_4 rfl (j_iload_n 2 dL_played_5 rfl (j_iload_n 3 dL_played_6 rfl (j_iload 4 dL_played_7 rfl (j_callV (rest := [vI 0, vA x5]) 10 [vI x1, vI x2, vI x3, vI x4] k_RL_102 ⟨w_6_151, w_6_152⟩ ⟨_, _, rfl⟩ (by decide) rfl rfl (Nat.le_of_ble_eq_true rfl) dL_played_9 h (kI (fun r1 S1 h => j_i2l dL_played_12 (j_last dL_played_13 h (fun h => j_goto (tgt := 29) dL_played_14 (by decide) (j_iconst dL_played_29 (j_iret rfl dL_played_30 h)))))) (fun E S9 h => by
      rcases h with ⟨rfl, h⟩ | ⟨rfl, h⟩ | ⟨rfl, h⟩
      · exact jx_catchR (n := 1) (i := 6) [] ⟨0, 14, 17, 31⟩ [⟨0, 14, 21, 13⟩, ⟨0, 14, 25, 42⟩] rfl (List.forall_mem_nil _) (by decide) (by decide) w_5_60 (List.mem_of_getElem? (i := 2) rfl) rfl (by decide) (Or.inr ⟨dL_played_17, dL_played_19, dL_played_20⟩) h
      · exact jx_catchR (n := 2) (i := 6) [⟨0, 14, 17, 31⟩] ⟨0, 14, 21, 13⟩ [⟨0, 14, 25, 42⟩] rfl (List.forall_mem_cons.mpr ⟨⟨by decide, "java/lang/IndexOutOfBoundsException", w_5_60, List.mem_of_getElem? (i := 1) rfl⟩, (List.forall_mem_nil _)⟩) (by decide) (by decide) w_4_29 (List.mem_of_getElem? (i := 0) rfl) rfl (by decide) (Or.inr ⟨dL_played_21, dL_played_23, dL_played_24⟩) h
      · exact jx_catchR (n := 3) (i := 6) [⟨0, 14, 17, 31⟩, ⟨0, 14, 21, 13⟩] ⟨0, 14, 25, 42⟩ [] rfl (List.forall_mem_cons.mpr ⟨⟨by decide, "java/lang/IndexOutOfBoundsException", w_5_60, List.mem_of_getElem? (i := 18) rfl⟩, (List.forall_mem_cons.mpr ⟨⟨by decide, "java/lang/IllegalArgumentException", w_4_29, List.mem_of_getElem? (i := 16) rfl⟩, (List.forall_mem_nil _)⟩)⟩) (by decide) (by decide) w_5_127 (List.mem_of_getElem? (i := 4) rfl) rfl (by decide) (Or.inr ⟨dL_played_25, dL_played_27, dL_played_28⟩) h))))))))
theorem ML_played {d : Nat} {x0 : Nat} {x1 : Int} {x2 : Int} {x3 : Int} {x4 : Int} {x5 : Nat} {S : MS} {Q : Out → MS → Prop} (h : VL_played_0 d Q x0 x1 x2 x3 x4 x5 S) : Mw hL_played yL_played (d + 1) [vA x0, vI x1, vI x2, vI x3, vI x4, vA x5] S Q := Mw.ofJH (by decide) (Nat.le_of_ble_eq_true rfl) (JL_played_0 _ _ _ _ _ _ S h)
theorem dL_mean_0 : decode cL_mean 0 = .ok (.aload_n 2, 1) := by decide +kernel
theorem dL_mean_1 : decode cL_mean 1 = .ok (.iconst 0, 1) := by decide +kernel
theorem dL_mean_2 : decode cL_mean 2 = .ok (.aload_n 0, 1) := by decide +kernel
theorem dL_mean_3 : decode cL_mean 3 = .ok (.iload_n 1, 1) := by decide +kernel
theorem dL_mean_4 : decode cL_mean 4 = .ok (.invokevirtual 106, 3) := by decide +kernel
theorem dL_mean_7 : decode cL_mean 7 = .ok (.i2l, 1) := by decide +kernel
theorem dL_mean_8 : decode cL_mean 8 = .ok (.lastore, 1) := by decide +kernel
theorem dL_mean_9 : decode cL_mean 9 = .ok (.goto 6, 3) := by decide +kernel
theorem dL_mean_12 : decode cL_mean 12 = .ok (.astore_n 3, 1) := by decide +kernel
theorem dL_mean_13 : decode cL_mean 13 = .ok (.iconst 1, 1) := by decide +kernel
theorem dL_mean_14 : decode cL_mean 14 = .ok (.ireturn, 1) := by decide +kernel
theorem dL_mean_15 : decode cL_mean 15 = .ok (.iconst 0, 1) := by decide +kernel
theorem dL_mean_16 : decode cL_mean 16 = .ok (.ireturn, 1) := by decide +kernel
def VL_mean_0 (d : Nat) (Q : Out → MS → Prop) (x0 : Nat) (x1 : Int) (x2 : Nat) (S : MS) : Prop :=
  S.K x0 = 10 ∧ Mw hX10_mean yX10_mean d [vA x0, vI x1] S (xI (fun r1 S1 => (S1.K x2 = 14 ∧ 0 ≤ (0 : Int) ∧ (0 : Int) < S1.N x2) ∧ (Q (.inl (some (vI 0))) (S1.setJ x2 ((0 : Int)).toNat (i2L r1)))) (fun E S9 => (E = "java/lang/IndexOutOfBoundsException" ∧ Q (.inl (some (vI 1))) S9)))
theorem JL_mean_0 {d : Nat} {S0 : MS} {Q : Out → MS → Prop} (x0 : Nat) (x1 : Int) (x2 : Nat) (S : MS) (h : VL_mean_0 d Q x0 x1 x2 S) : Jw FinM RL cL_mean 4 (some .int) [(0, 9, 12, 31)] yL_mean (d + 1) S0 S 0 [(0, vA x0), (1, vI x1), (2, vA x2)] [] Q :=
  j_aload_n 2 dL_mean_0 rfl (j_iconst dL_mean_1 (j_aload_n 0 dL_mean_2 rfl (j_iload_n 1 dL_mean_3 rfl (j_callV (rest := [vI 0, vA x2]) 10 [vI x1] k_RL_106 ⟨w_6_173, w_6_174⟩ ⟨_, _, rfl⟩ (by decide) rfl rfl (Nat.le_of_ble_eq_true rfl) dL_mean_4 h (kI (fun r1 S1 h => j_i2l dL_mean_7 (j_last dL_mean_8 h (fun h => j_goto (tgt := 15) dL_mean_9 (by decide) (j_iconst dL_mean_15 (j_iret rfl dL_mean_16 h)))))) (fun E S9 h => by
      rcases h with ⟨rfl, h⟩
      · exact jx_catchR (n := 1) (i := 3) [] ⟨0, 9, 12, 31⟩ [] rfl (List.forall_mem_nil _) (by decide) (by decide) w_5_60 (List.mem_of_getElem? (i := 2) rfl) rfl (by decide) (Or.inl ⟨3, rfl, dL_mean_12, dL_mean_13, dL_mean_14⟩) h)))))
theorem ML_mean {d : Nat} {x0 : Nat} {x1 : Int} {x2 : Nat} {S : MS} {Q : Out → MS → Prop} (h : VL_mean_0 d Q x0 x1 x2 S) : Mw hL_mean yL_mean (d + 1) [vA x0, vI x1, vA x2] S Q := Mw.ofJH (by decide) (Nat.le_of_ble_eq_true rfl) (JL_mean_0 _ _ _ S h)
theorem dL_where_0 : decode cL_where 0 = .ok (.aload_n 3, 1) := by decide +kernel
theorem dL_where_1 : decode cL_where 1 = .ok (.iconst 0, 1) := by decide +kernel
theorem dL_where_2 : decode cL_where 2 = .ok (.aload_n 0, 1) := by decide +kernel
theorem dL_where_3 : decode cL_where 3 = .ok (.iload_n 1, 1) := by decide +kernel
theorem dL_where_4 : decode cL_where 4 = .ok (.iload_n 2, 1) := by decide +kernel
theorem dL_where_5 : decode cL_where 5 = .ok (.invokevirtual 109, 3) := by decide +kernel
theorem dL_where_8 : decode cL_where 8 = .ok (.i2l, 1) := by decide +kernel
theorem dL_where_9 : decode cL_where 9 = .ok (.lastore, 1) := by decide +kernel
theorem dL_where_10 : decode cL_where 10 = .ok (.goto 7, 3) := by decide +kernel
theorem dL_where_13 : decode cL_where 13 = .ok (.astore 4, 2) := by decide +kernel
theorem dL_where_15 : decode cL_where 15 = .ok (.iconst 1, 1) := by decide +kernel
theorem dL_where_16 : decode cL_where 16 = .ok (.ireturn, 1) := by decide +kernel
theorem dL_where_17 : decode cL_where 17 = .ok (.iconst 0, 1) := by decide +kernel
theorem dL_where_18 : decode cL_where 18 = .ok (.ireturn, 1) := by decide +kernel
def VL_where_0 (d : Nat) (Q : Out → MS → Prop) (x0 : Nat) (x1 : Int) (x2 : Int) (x3 : Nat) (S : MS) : Prop :=
  S.K x0 = 10 ∧ Mw hX10_where yX10_where d [vA x0, vI x1, vI x2] S (xI (fun r1 S1 => (S1.K x3 = 14 ∧ 0 ≤ (0 : Int) ∧ (0 : Int) < S1.N x3) ∧ (Q (.inl (some (vI 0))) (S1.setJ x3 ((0 : Int)).toNat (i2L r1)))) (fun E S9 => (E = "java/lang/IndexOutOfBoundsException" ∧ Q (.inl (some (vI 1))) S9)))
theorem JL_where_0 {d : Nat} {S0 : MS} {Q : Out → MS → Prop} (x0 : Nat) (x1 : Int) (x2 : Int) (x3 : Nat) (S : MS) (h : VL_where_0 d Q x0 x1 x2 x3 S) : Jw FinM RL cL_where 5 (some .int) [(0, 10, 13, 31)] yL_where (d + 1) S0 S 0 [(0, vA x0), (1, vI x1), (2, vI x2), (3, vA x3)] [] Q :=
  j_aload_n 3 dL_where_0 rfl (j_iconst dL_where_1 (j_aload_n 0 dL_where_2 rfl (j_iload_n 1 dL_where_3 rfl (j_iload_n 2 dL_where_4 rfl (j_callV (rest := [vI 0, vA x3]) 10 [vI x1, vI x2] k_RL_109 ⟨w_6_180, w_6_181⟩ ⟨_, _, rfl⟩ (by decide) rfl rfl (Nat.le_of_ble_eq_true rfl) dL_where_5 h (kI (fun r1 S1 h => j_i2l dL_where_8 (j_last dL_where_9 h (fun h => j_goto (tgt := 17) dL_where_10 (by decide) (j_iconst dL_where_17 (j_iret rfl dL_where_18 h)))))) (fun E S9 h => by
      rcases h with ⟨rfl, h⟩
      · exact jx_catchR (n := 1) (i := 4) [] ⟨0, 10, 13, 31⟩ [] rfl (List.forall_mem_nil _) (by decide) (by decide) w_5_60 (List.mem_of_getElem? (i := 2) rfl) rfl (by decide) (Or.inr ⟨dL_where_13, dL_where_15, dL_where_16⟩) h))))))
theorem ML_where {d : Nat} {x0 : Nat} {x1 : Int} {x2 : Int} {x3 : Nat} {S : MS} {Q : Out → MS → Prop} (h : VL_where_0 d Q x0 x1 x2 x3 S) : Mw hL_where yL_where (d + 1) [vA x0, vI x1, vI x2, vA x3] S Q := Mw.ofJH (by decide) (Nat.le_of_ble_eq_true rfl) (JL_where_0 _ _ _ _ S h)
theorem dL_tree_0 : decode cL_tree 0 = .ok (.aload_n 3, 1) := by decide +kernel
theorem dL_tree_1 : decode cL_tree 1 = .ok (.iconst 0, 1) := by decide +kernel
theorem dL_tree_2 : decode cL_tree 2 = .ok (.aload_n 0, 1) := by decide +kernel
theorem dL_tree_3 : decode cL_tree 3 = .ok (.iload_n 1, 1) := by decide +kernel
theorem dL_tree_4 : decode cL_tree 4 = .ok (.iload_n 2, 1) := by decide +kernel
theorem dL_tree_5 : decode cL_tree 5 = .ok (.invokevirtual 112, 3) := by decide +kernel
theorem dL_tree_8 : decode cL_tree 8 = .ok (.i2l, 1) := by decide +kernel
theorem dL_tree_9 : decode cL_tree 9 = .ok (.lastore, 1) := by decide +kernel
theorem dL_tree_10 : decode cL_tree 10 = .ok (.goto 11, 3) := by decide +kernel
theorem dL_tree_13 : decode cL_tree 13 = .ok (.astore 4, 2) := by decide +kernel
theorem dL_tree_15 : decode cL_tree 15 = .ok (.iconst 1, 1) := by decide +kernel
theorem dL_tree_16 : decode cL_tree 16 = .ok (.ireturn, 1) := by decide +kernel
theorem dL_tree_17 : decode cL_tree 17 = .ok (.astore 4, 2) := by decide +kernel
theorem dL_tree_19 : decode cL_tree 19 = .ok (.iconst 2, 1) := by decide +kernel
theorem dL_tree_20 : decode cL_tree 20 = .ok (.ireturn, 1) := by decide +kernel
theorem dL_tree_21 : decode cL_tree 21 = .ok (.iconst 0, 1) := by decide +kernel
theorem dL_tree_22 : decode cL_tree 22 = .ok (.ireturn, 1) := by decide +kernel
def VL_tree_0 (d : Nat) (Q : Out → MS → Prop) (x0 : Nat) (x1 : Int) (x2 : Int) (x3 : Nat) (S : MS) : Prop :=
  S.K x0 = 10 ∧ Mw hX10_tree yX10_tree d [vA x0, vI x1, vI x2] S (xI (fun r1 S1 => (S1.K x3 = 14 ∧ 0 ≤ (0 : Int) ∧ (0 : Int) < S1.N x3) ∧ (Q (.inl (some (vI 0))) (S1.setJ x3 ((0 : Int)).toNat (i2L r1)))) (fun E S9 => (E = "java/lang/IndexOutOfBoundsException" ∧ Q (.inl (some (vI 1))) S9) ∨ (E = "java/lang/IllegalArgumentException" ∧ Q (.inl (some (vI 2))) S9)))
theorem JL_tree_0 {d : Nat} {S0 : MS} {Q : Out → MS → Prop} (x0 : Nat) (x1 : Int) (x2 : Int) (x3 : Nat) (S : MS) (h : VL_tree_0 d Q x0 x1 x2 x3 S) : Jw FinM RL cL_tree 5 (some .int) [(0, 10, 13, 31), (0, 10, 17, 13)] yL_tree (d + 1) S0 S 0 [(0, vA x0), (1, vI x1), (2, vI x2), (3, vA x3)] [] Q :=
  j_aload_n 3 dL_tree_0 rfl (j_iconst dL_tree_1 (j_aload_n 0 dL_tree_2 rfl (j_iload_n 1 dL_tree_3 rfl (j_iload_n 2 dL_tree_4 rfl (j_callV (rest := [vI 0, vA x3]) 10 [vI x1, vI x2] k_RL_112 ⟨w_6_187, w_6_188⟩ ⟨_, _, rfl⟩ (by decide) rfl rfl (Nat.le_of_ble_eq_true rfl) dL_tree_5 h (kI (fun r1 S1 h => j_i2l dL_tree_8 (j_last dL_tree_9 h (fun h => j_goto (tgt := 21) dL_tree_10 (by decide) (j_iconst dL_tree_21 (j_iret rfl dL_tree_22 h)))))) (fun E S9 h => by
      rcases h with ⟨rfl, h⟩ | ⟨rfl, h⟩
      · exact jx_catchR (n := 1) (i := 4) [] ⟨0, 10, 13, 31⟩ [⟨0, 10, 17, 13⟩] rfl (List.forall_mem_nil _) (by decide) (by decide) w_5_60 (List.mem_of_getElem? (i := 2) rfl) rfl (by decide) (Or.inr ⟨dL_tree_13, dL_tree_15, dL_tree_16⟩) h
      · exact jx_catchR (n := 2) (i := 4) [⟨0, 10, 13, 31⟩] ⟨0, 10, 17, 13⟩ [] rfl (List.forall_mem_cons.mpr ⟨⟨by decide, "java/lang/IndexOutOfBoundsException", w_5_60, List.mem_of_getElem? (i := 1) rfl⟩, (List.forall_mem_nil _)⟩) (by decide) (by decide) w_4_29 (List.mem_of_getElem? (i := 0) rfl) rfl (by decide) (Or.inr ⟨dL_tree_17, dL_tree_19, dL_tree_20⟩) h))))))
theorem ML_tree {d : Nat} {x0 : Nat} {x1 : Int} {x2 : Int} {x3 : Nat} {S : MS} {Q : Out → MS → Prop} (h : VL_tree_0 d Q x0 x1 x2 x3 S) : Mw hL_tree yL_tree (d + 1) [vA x0, vI x1, vI x2, vA x3] S Q := Mw.ofJH (by decide) (Nat.le_of_ble_eq_true rfl) (JL_tree_0 _ _ _ _ S h)
theorem dL_stands_0 : decode cL_stands 0 = .ok (.aload_n 3, 1) := by decide +kernel
theorem dL_stands_1 : decode cL_stands 1 = .ok (.iconst 0, 1) := by decide +kernel
theorem dL_stands_2 : decode cL_stands 2 = .ok (.aload_n 0, 1) := by decide +kernel
theorem dL_stands_3 : decode cL_stands 3 = .ok (.iload_n 1, 1) := by decide +kernel
theorem dL_stands_4 : decode cL_stands 4 = .ok (.iload_n 2, 1) := by decide +kernel
theorem dL_stands_5 : decode cL_stands 5 = .ok (.invokevirtual 116, 3) := by decide +kernel
theorem dL_stands_8 : decode cL_stands 8 = .ok (.i2l, 1) := by decide +kernel
theorem dL_stands_9 : decode cL_stands 9 = .ok (.lastore, 1) := by decide +kernel
theorem dL_stands_10 : decode cL_stands 10 = .ok (.goto 7, 3) := by decide +kernel
theorem dL_stands_13 : decode cL_stands 13 = .ok (.astore 4, 2) := by decide +kernel
theorem dL_stands_15 : decode cL_stands 15 = .ok (.iconst 1, 1) := by decide +kernel
theorem dL_stands_16 : decode cL_stands 16 = .ok (.ireturn, 1) := by decide +kernel
theorem dL_stands_17 : decode cL_stands 17 = .ok (.iconst 0, 1) := by decide +kernel
theorem dL_stands_18 : decode cL_stands 18 = .ok (.ireturn, 1) := by decide +kernel
def VL_stands_0 (d : Nat) (Q : Out → MS → Prop) (x0 : Nat) (x1 : Int) (x2 : Int) (x3 : Nat) (S : MS) : Prop :=
  S.K x0 = 10 ∧ Mw hX10_stands yX10_stands d [vA x0, vI x1, vI x2] S (xI (fun r1 S1 => (S1.K x3 = 14 ∧ 0 ≤ (0 : Int) ∧ (0 : Int) < S1.N x3) ∧ (Q (.inl (some (vI 0))) (S1.setJ x3 ((0 : Int)).toNat (i2L r1)))) (fun E S9 => (E = "java/lang/IndexOutOfBoundsException" ∧ Q (.inl (some (vI 1))) S9)))
theorem JL_stands_0 {d : Nat} {S0 : MS} {Q : Out → MS → Prop} (x0 : Nat) (x1 : Int) (x2 : Int) (x3 : Nat) (S : MS) (h : VL_stands_0 d Q x0 x1 x2 x3 S) : Jw FinM RL cL_stands 5 (some .int) [(0, 10, 13, 31)] yL_stands (d + 1) S0 S 0 [(0, vA x0), (1, vI x1), (2, vI x2), (3, vA x3)] [] Q :=
  j_aload_n 3 dL_stands_0 rfl (j_iconst dL_stands_1 (j_aload_n 0 dL_stands_2 rfl (j_iload_n 1 dL_stands_3 rfl (j_iload_n 2 dL_stands_4 rfl (j_callV (rest := [vI 0, vA x3]) 10 [vI x1, vI x2] k_RL_116 ⟨w_6_196, w_6_197⟩ ⟨_, _, rfl⟩ (by decide) rfl rfl (Nat.le_of_ble_eq_true rfl) dL_stands_5 h (kI (fun r1 S1 h => j_i2l dL_stands_8 (j_last dL_stands_9 h (fun h => j_goto (tgt := 17) dL_stands_10 (by decide) (j_iconst dL_stands_17 (j_iret rfl dL_stands_18 h)))))) (fun E S9 h => by
      rcases h with ⟨rfl, h⟩
      · exact jx_catchR (n := 1) (i := 4) [] ⟨0, 10, 13, 31⟩ [] rfl (List.forall_mem_nil _) (by decide) (by decide) w_5_60 (List.mem_of_getElem? (i := 2) rfl) rfl (by decide) (Or.inr ⟨dL_stands_13, dL_stands_15, dL_stands_16⟩) h))))))
theorem ML_stands {d : Nat} {x0 : Nat} {x1 : Int} {x2 : Int} {x3 : Nat} {S : MS} {Q : Out → MS → Prop} (h : VL_stands_0 d Q x0 x1 x2 x3 S) : Mw hL_stands yL_stands (d + 1) [vA x0, vI x1, vI x2, vA x3] S Q := Mw.ofJH (by decide) (Nat.le_of_ble_eq_true rfl) (JL_stands_0 _ _ _ _ S h)
theorem dL_laid_0 : decode cL_laid 0 = .ok (.aload_n 3, 1) := by decide +kernel
theorem dL_laid_1 : decode cL_laid 1 = .ok (.iconst 0, 1) := by decide +kernel
theorem dL_laid_2 : decode cL_laid 2 = .ok (.aload_n 0, 1) := by decide +kernel
theorem dL_laid_3 : decode cL_laid 3 = .ok (.iload_n 1, 1) := by decide +kernel
theorem dL_laid_4 : decode cL_laid 4 = .ok (.iload_n 2, 1) := by decide +kernel
theorem dL_laid_5 : decode cL_laid 5 = .ok (.invokevirtual 119, 3) := by decide +kernel
theorem dL_laid_8 : decode cL_laid 8 = .ok (.i2l, 1) := by decide +kernel
theorem dL_laid_9 : decode cL_laid 9 = .ok (.lastore, 1) := by decide +kernel
theorem dL_laid_10 : decode cL_laid 10 = .ok (.goto 7, 3) := by decide +kernel
theorem dL_laid_13 : decode cL_laid 13 = .ok (.astore 4, 2) := by decide +kernel
theorem dL_laid_15 : decode cL_laid 15 = .ok (.iconst 1, 1) := by decide +kernel
theorem dL_laid_16 : decode cL_laid 16 = .ok (.ireturn, 1) := by decide +kernel
theorem dL_laid_17 : decode cL_laid 17 = .ok (.iconst 0, 1) := by decide +kernel
theorem dL_laid_18 : decode cL_laid 18 = .ok (.ireturn, 1) := by decide +kernel
def VL_laid_0 (d : Nat) (Q : Out → MS → Prop) (x0 : Nat) (x1 : Int) (x2 : Int) (x3 : Nat) (S : MS) : Prop :=
  S.K x0 = 10 ∧ Mw hX10_laid yX10_laid d [vA x0, vI x1, vI x2] S (xI (fun r1 S1 => (S1.K x3 = 14 ∧ 0 ≤ (0 : Int) ∧ (0 : Int) < S1.N x3) ∧ (Q (.inl (some (vI 0))) (S1.setJ x3 ((0 : Int)).toNat (i2L r1)))) (fun E S9 => (E = "java/lang/IndexOutOfBoundsException" ∧ Q (.inl (some (vI 1))) S9)))
theorem JL_laid_0 {d : Nat} {S0 : MS} {Q : Out → MS → Prop} (x0 : Nat) (x1 : Int) (x2 : Int) (x3 : Nat) (S : MS) (h : VL_laid_0 d Q x0 x1 x2 x3 S) : Jw FinM RL cL_laid 5 (some .int) [(0, 10, 13, 31)] yL_laid (d + 1) S0 S 0 [(0, vA x0), (1, vI x1), (2, vI x2), (3, vA x3)] [] Q :=
  j_aload_n 3 dL_laid_0 rfl (j_iconst dL_laid_1 (j_aload_n 0 dL_laid_2 rfl (j_iload_n 1 dL_laid_3 rfl (j_iload_n 2 dL_laid_4 rfl (j_callV (rest := [vI 0, vA x3]) 10 [vI x1, vI x2] k_RL_119 ⟨w_6_206, w_6_207⟩ ⟨_, _, rfl⟩ (by decide) rfl rfl (Nat.le_of_ble_eq_true rfl) dL_laid_5 h (kI (fun r1 S1 h => j_i2l dL_laid_8 (j_last dL_laid_9 h (fun h => j_goto (tgt := 17) dL_laid_10 (by decide) (j_iconst dL_laid_17 (j_iret rfl dL_laid_18 h)))))) (fun E S9 h => by
      rcases h with ⟨rfl, h⟩
      · exact jx_catchR (n := 1) (i := 4) [] ⟨0, 10, 13, 31⟩ [] rfl (List.forall_mem_nil _) (by decide) (by decide) w_5_60 (List.mem_of_getElem? (i := 2) rfl) rfl (by decide) (Or.inr ⟨dL_laid_13, dL_laid_15, dL_laid_16⟩) h))))))
theorem ML_laid {d : Nat} {x0 : Nat} {x1 : Int} {x2 : Int} {x3 : Nat} {S : MS} {Q : Out → MS → Prop} (h : VL_laid_0 d Q x0 x1 x2 x3 S) : Mw hL_laid yL_laid (d + 1) [vA x0, vI x1, vI x2, vA x3] S Q := Mw.ofJH (by decide) (Nat.le_of_ble_eq_true rfl) (JL_laid_0 _ _ _ _ S h)
