theorem dX5_init_0 : decode cX5_init 0 = .ok (.aload_n 0, 1) := by decide +kernel
theorem dX5_init_1 : decode cX5_init 1 = .ok (.invokespecial 3, 3) := by decide +kernel
theorem dX5_init_4 : decode cX5_init 4 = .ok (.aload_n 0, 1) := by decide +kernel
theorem dX5_init_5 : decode cX5_init 5 = .ok (.iconst 0, 1) := by decide +kernel
theorem dX5_init_6 : decode cX5_init 6 = .ok (.putfield 9, 3) := by decide +kernel
theorem dX5_init_9 : decode cX5_init 9 = .ok (.aload_n 0, 1) := by decide +kernel
theorem dX5_init_10 : decode cX5_init 10 = .ok (.bipush 79, 2) := by decide +kernel
theorem dX5_init_12 : decode cX5_init 12 = .ok (.newarray .long, 2) := by decide +kernel
theorem dX5_init_14 : decode cX5_init 14 = .ok (.putfield 15, 3) := by decide +kernel
theorem dX5_init_17 : decode cX5_init 17 = .ok (.aload_n 0, 1) := by decide +kernel
theorem dX5_init_18 : decode cX5_init 18 = .ok (.bipush 79, 2) := by decide +kernel
theorem dX5_init_20 : decode cX5_init 20 = .ok (.newarray .int, 2) := by decide +kernel
theorem dX5_init_22 : decode cX5_init 22 = .ok (.putfield 19, 3) := by decide +kernel
theorem dX5_init_25 : decode cX5_init 25 = .ok (.aload_n 0, 1) := by decide +kernel
theorem dX5_init_26 : decode cX5_init 26 = .ok (.iconst 0, 1) := by decide +kernel
theorem dX5_init_27 : decode cX5_init 27 = .ok (.putfield 23, 3) := by decide +kernel
theorem dX5_init_30 : decode cX5_init 30 = .ok (.return_, 1) := by decide +kernel
def VX5_init_0 (d : Nat) (Q : Out → MS → Prop) (x0 : Nat) (S : MS) : Prop :=
  S.K x0 = 5 ∧ ((0 ≤ (79 : Int) ∧ (79 : Int) < 1000000) ∧ (((S.setI x0 0 0).mk 14 ((79 : Int)).toNat).K x0 = 5 ∧ ((0 ≤ (79 : Int) ∧ (79 : Int) < 1000000) ∧ (∀ S1 : MS, S1 = (((S.setI x0 0 0).mk 14 ((79 : Int)).toNat).setR x0 1 (some ((S.setI x0 0 0).nx))).mk 13 ((79 : Int)).toNat → S1.K x0 = 5 ∧ (∀ S2 : MS, S2 = S1.setR x0 2 (some ((((S.setI x0 0 0).mk 14 ((79 : Int)).toNat).setR x0 1 (some ((S.setI x0 0 0).nx))).nx)) → S2.K x0 = 5 ∧ (Q (.inl none) (S2.setI x0 3 0)))))))
theorem JX5_init_0 {d : Nat} {S0 : MS} {Q : Out → MS → Prop} (x0 : Nat) (S : MS) (h : VX5_init_0 d Q x0 S) : Jw FinM RX5 cX5_init 1 none [] yX5_init (d + 1) S0 S 0 [(0, vA x0)] [] Q :=
  j_aload_n 0 dX5_init_0 rfl (j_objInit w_1_164 dX5_init_1 (Nat.le_of_ble_eq_true rfl) w_1_36 w_objInit (j_aload_n 0 dX5_init_4 rfl (j_iconst dX5_init_5 (j_putI 5 0 f_RX5_9 dX5_init_6 h (fun h => j_aload_n 0 dX5_init_9 rfl (j_bipush dX5_init_10 rfl (j_newb 14 dX5_init_12 rfl (by decide) w_1_158 h (fun h => j_putFR 5 1 f_RX5_15 (by intro q h; cases h; rfl) rfl (fun b => ⟨rfl, rfl⟩) dX5_init_14 h (fun h => j_aload_n 0 dX5_init_17 rfl (j_bipush dX5_init_18 rfl (j_newb 13 dX5_init_20 rfl (by decide) w_1_58 h (fun h => j_bind h (fun S1 h => j_putFR 5 2 f_RX5_19 (by intro q h; cases h; rfl) rfl (fun b => ⟨rfl, rfl⟩) dX5_init_22 h (fun h => j_bind h (fun S2 h => j_aload_n 0 dX5_init_25 rfl (j_iconst dX5_init_26 (j_putI 5 3 f_RX5_23 dX5_init_27 h (fun h => j_vret rfl dX5_init_30 h))))))))))))))))))
theorem MX5_init {d : Nat} {x0 : Nat} {S : MS} {Q : Out → MS → Prop} (h : VX5_init_0 d Q x0 S) : Mw hX5_init yX5_init (d + 1) [vA x0] S Q := Mw.ofJ (by decide) (Nat.le_of_ble_eq_true rfl) (JX5_init_0 _ S h)
theorem dX5_clear_0 : decode cX5_clear 0 = .ok (.iconst 0, 1) := by decide +kernel
theorem dX5_clear_1 : decode cX5_clear 1 = .ok (.istore_n 1, 1) := by decide +kernel
theorem dX5_clear_2 : decode cX5_clear 2 = .ok (.iload_n 1, 1) := by decide +kernel
theorem dX5_clear_3 : decode cX5_clear 3 = .ok (.aload_n 0, 1) := by decide +kernel
theorem dX5_clear_4 : decode cX5_clear 4 = .ok (.getfield 23, 3) := by decide +kernel
theorem dX5_clear_7 : decode cX5_clear 7 = .ok (.if_icmp .ge 21, 3) := by decide +kernel
theorem dX5_clear_10 : decode cX5_clear 10 = .ok (.aload_n 0, 1) := by decide +kernel
theorem dX5_clear_11 : decode cX5_clear 11 = .ok (.getfield 15, 3) := by decide +kernel
theorem dX5_clear_14 : decode cX5_clear 14 = .ok (.aload_n 0, 1) := by decide +kernel
theorem dX5_clear_15 : decode cX5_clear 15 = .ok (.getfield 19, 3) := by decide +kernel
theorem dX5_clear_18 : decode cX5_clear 18 = .ok (.iload_n 1, 1) := by decide +kernel
theorem dX5_clear_19 : decode cX5_clear 19 = .ok (.iaload, 1) := by decide +kernel
theorem dX5_clear_20 : decode cX5_clear 20 = .ok (.lconst 0, 1) := by decide +kernel
theorem dX5_clear_21 : decode cX5_clear 21 = .ok (.lastore, 1) := by decide +kernel
theorem dX5_clear_22 : decode cX5_clear 22 = .ok (.iinc 1 1, 3) := by decide +kernel
theorem dX5_clear_25 : decode cX5_clear 25 = .ok (.goto (-23), 3) := by decide +kernel
theorem dX5_clear_28 : decode cX5_clear 28 = .ok (.aload_n 0, 1) := by decide +kernel
theorem dX5_clear_29 : decode cX5_clear 29 = .ok (.iconst 0, 1) := by decide +kernel
theorem dX5_clear_30 : decode cX5_clear 30 = .ok (.putfield 9, 3) := by decide +kernel
theorem dX5_clear_33 : decode cX5_clear 33 = .ok (.aload_n 0, 1) := by decide +kernel
theorem dX5_clear_34 : decode cX5_clear 34 = .ok (.iconst 0, 1) := by decide +kernel
theorem dX5_clear_35 : decode cX5_clear 35 = .ok (.putfield 23, 3) := by decide +kernel
theorem dX5_clear_38 : decode cX5_clear 38 = .ok (.return_, 1) := by decide +kernel
def VX5_clear_2 (d : Nat) (Q : Out → MS → Prop) : Nat → Nat → Int → MS → Prop
  | 0, _, _, _ => False
  | n + 1, x0, x1, S => S.K x0 = 5 ∧ ((R32 x1 ∧ R32 (S.I x0 3)) ∧ (((S.I x0 3) ≤ x1) → S.K x0 = 5 ∧ ((S.setI x0 0 0).K x0 = 5 ∧ (Q (.inl none) ((S.setI x0 0 0).setI x0 3 0)))) ∧ (¬ ((S.I x0 3) ≤ x1) → S.K x0 = 5 ∧ ∃ b1, S.R x0 1 = some b1 ∧ (S.K x0 = 5 ∧ ∃ b2, S.R x0 2 = some b2 ∧ ((S.K b2 = 13 ∧ 0 ≤ x1 ∧ x1 < S.N b2) ∧ ((S.K b1 = 14 ∧ 0 ≤ (S.I b2 (x1).toNat) ∧ (S.I b2 (x1).toNat) < S.N b1) ∧ ((VX5_clear_2 d Q n) x0 (x1 + 1) (S.setJ b1 ((S.I b2 (x1).toNat)).toNat (0#64))))))))
theorem JX5_clear_2 {d : Nat} {S0 : MS} {Q : Out → MS → Prop} : ∀ (n : Nat) (x0 : Nat) (x1 : Int) (S : MS), VX5_clear_2 d Q n x0 x1 S → Jw FinM RX5 cX5_clear 2 none [] yX5_clear (d + 1) S0 S 2 [(0, vA x0), (1, vI x1)] [] Q := by
  intro n
  induction n with
  | zero => intro x0 x1 S h; exact h.elim
  | succ n ih =>
    intro x0 x1 S h
    exact j_iload_n 1 dX5_clear_2 rfl (j_aload_n 0 dX5_clear_3 rfl (j_getI 5 3 f_RX5_23 dX5_clear_4 h (fun h => j_icmp_ge (tgt := 28) dX5_clear_7 (by decide) h (fun h => j_aload_n 0 dX5_clear_28 rfl (j_iconst dX5_clear_29 (j_putI 5 0 f_RX5_9 dX5_clear_30 h (fun h => j_aload_n 0 dX5_clear_33 rfl (j_iconst dX5_clear_34 (j_putI 5 3 f_RX5_23 dX5_clear_35 h (fun h => j_vret rfl dX5_clear_38 h))))))) (fun h => j_aload_n 0 dX5_clear_10 rfl (j_getR 5 1 f_RX5_15 dX5_clear_11 h (fun b1 h => j_aload_n 0 dX5_clear_14 rfl (j_getR 5 2 f_RX5_19 dX5_clear_15 h (fun b2 h => j_iload_n 1 dX5_clear_18 rfl (j_iald dX5_clear_19 h (fun h => j_lconst dX5_clear_20 rfl (j_last dX5_clear_21 h (fun h => j_iinc 1 (lv2 := [(1, vI (x1 + 1)), (0, vA x0)]) dX5_clear_22 rfl (by decide) rfl (j_goto (tgt := 2) dX5_clear_25 (by decide) (j_sub [1, 0] rfl (ih _ _ _ h)))))))))))))))
def VX5_clear_0 (d : Nat) (Q : Out → MS → Prop) (x0 : Nat) (S : MS) : Prop :=
  ∃ m, VX5_clear_2 d Q m x0 0 S
theorem JX5_clear_0 {d : Nat} {S0 : MS} {Q : Out → MS → Prop} (x0 : Nat) (S : MS) (h : VX5_clear_0 d Q x0 S) : Jw FinM RX5 cX5_clear 2 none [] yX5_clear (d + 1) S0 S 0 [(0, vA x0)] [] Q :=
  j_iconst dX5_clear_0 (j_istore_n (lv2 := [(1, vI 0), (0, vA x0)]) dX5_clear_1 (by decide) rfl (Exists.elim h (fun m h => j_sub [1, 0] rfl (JX5_clear_2 m _ _ _ h))))
theorem MX5_clear {d : Nat} {x0 : Nat} {S : MS} {Q : Out → MS → Prop} (h : VX5_clear_0 d Q x0 S) : Mw hX5_clear yX5_clear (d + 1) [vA x0] S Q := Mw.ofJ (by decide) (Nat.le_of_ble_eq_true rfl) (JX5_clear_0 _ S h)
theorem dX5_add_0 : decode cX5_add 0 = .ok (.lload_n 2, 1) := by decide +kernel
theorem dX5_add_1 : decode cX5_add 1 = .ok (.lconst 0, 1) := by decide +kernel
theorem dX5_add_2 : decode cX5_add 2 = .ok (.lcmp, 1) := by decide +kernel
theorem dX5_add_3 : decode cX5_add 3 = .ok (.ifCond .eq 68, 3) := by decide +kernel
theorem dX5_add_6 : decode cX5_add 6 = .ok (.iload_n 1, 1) := by decide +kernel
theorem dX5_add_7 : decode cX5_add 7 = .ok (.ifCond .lt 64, 3) := by decide +kernel
theorem dX5_add_10 : decode cX5_add 10 = .ok (.iload_n 1, 1) := by decide +kernel
theorem dX5_add_11 : decode cX5_add 11 = .ok (.aload_n 0, 1) := by decide +kernel
theorem dX5_add_12 : decode cX5_add 12 = .ok (.getfield 15, 3) := by decide +kernel
theorem dX5_add_15 : decode cX5_add 15 = .ok (.arraylength, 1) := by decide +kernel
theorem dX5_add_16 : decode cX5_add 16 = .ok (.if_icmp .ge 55, 3) := by decide +kernel
theorem dX5_add_19 : decode cX5_add 19 = .ok (.aload_n 0, 1) := by decide +kernel
theorem dX5_add_20 : decode cX5_add 20 = .ok (.getfield 23, 3) := by decide +kernel
theorem dX5_add_23 : decode cX5_add 23 = .ok (.aload_n 0, 1) := by decide +kernel
theorem dX5_add_24 : decode cX5_add 24 = .ok (.getfield 19, 3) := by decide +kernel
theorem dX5_add_27 : decode cX5_add 27 = .ok (.arraylength, 1) := by decide +kernel
theorem dX5_add_28 : decode cX5_add 28 = .ok (.if_icmp .ge 43, 3) := by decide +kernel
theorem dX5_add_31 : decode cX5_add 31 = .ok (.aload_n 0, 1) := by decide +kernel
theorem dX5_add_32 : decode cX5_add 32 = .ok (.getfield 15, 3) := by decide +kernel
theorem dX5_add_35 : decode cX5_add 35 = .ok (.iload_n 1, 1) := by decide +kernel
theorem dX5_add_36 : decode cX5_add 36 = .ok (.lload_n 2, 1) := by decide +kernel
theorem dX5_add_37 : decode cX5_add 37 = .ok (.lastore, 1) := by decide +kernel
theorem dX5_add_38 : decode cX5_add 38 = .ok (.aload_n 0, 1) := by decide +kernel
theorem dX5_add_39 : decode cX5_add 39 = .ok (.getfield 19, 3) := by decide +kernel
theorem dX5_add_42 : decode cX5_add 42 = .ok (.aload_n 0, 1) := by decide +kernel
theorem dX5_add_43 : decode cX5_add 43 = .ok (.getfield 23, 3) := by decide +kernel
theorem dX5_add_46 : decode cX5_add 46 = .ok (.iload_n 1, 1) := by decide +kernel
theorem dX5_add_47 : decode cX5_add 47 = .ok (.iastore, 1) := by decide +kernel
theorem dX5_add_48 : decode cX5_add 48 = .ok (.aload_n 0, 1) := by decide +kernel
theorem dX5_add_49 : decode cX5_add 49 = .ok (.dup, 1) := by decide +kernel
theorem dX5_add_50 : decode cX5_add 50 = .ok (.getfield 23, 3) := by decide +kernel
theorem dX5_add_53 : decode cX5_add 53 = .ok (.iconst 1, 1) := by decide +kernel
theorem dX5_add_54 : decode cX5_add 54 = .ok (.iadd, 1) := by decide +kernel
theorem dX5_add_55 : decode cX5_add 55 = .ok (.putfield 23, 3) := by decide +kernel
theorem dX5_add_58 : decode cX5_add 58 = .ok (.aload_n 0, 1) := by decide +kernel
theorem dX5_add_59 : decode cX5_add 59 = .ok (.dup, 1) := by decide +kernel
theorem dX5_add_60 : decode cX5_add 60 = .ok (.getfield 9, 3) := by decide +kernel
theorem dX5_add_63 : decode cX5_add 63 = .ok (.lload_n 2, 1) := by decide +kernel
theorem dX5_add_64 : decode cX5_add 64 = .ok (.invokestatic 26, 3) := by decide +kernel
theorem dX5_add_67 : decode cX5_add 67 = .ok (.iadd, 1) := by decide +kernel
theorem dX5_add_68 : decode cX5_add 68 = .ok (.putfield 9, 3) := by decide +kernel
theorem dX5_add_71 : decode cX5_add 71 = .ok (.return_, 1) := by decide +kernel
def VX5_add_0 (d : Nat) (Q : Out → MS → Prop) (x0 : Nat) (x1 : Int) (x2 : BitVec 64) (S : MS) : Prop :=
  R32 (lCmp x2 (0#64)) ∧ (((lCmp x2 (0#64)) = 0) → Q (.inl none) S) ∧ (¬ ((lCmp x2 (0#64)) = 0) → R32 x1 ∧ ((x1 < 0) → Q (.inl none) S) ∧ (¬ (x1 < 0) → S.K x0 = 5 ∧ ∃ b1, S.R x0 1 = some b1 ∧ ((12 ≤ S.K b1 ∧ S.K b1 < 21) ∧ ((R32 x1 ∧ R32 ((S.N b1 : Int))) ∧ ((((S.N b1 : Int)) ≤ x1) → Q (.inl none) S) ∧ (¬ (((S.N b1 : Int)) ≤ x1) → S.K x0 = 5 ∧ (S.K x0 = 5 ∧ ∃ b2, S.R x0 2 = some b2 ∧ ((12 ≤ S.K b2 ∧ S.K b2 < 21) ∧ ((R32 (S.I x0 3) ∧ R32 ((S.N b2 : Int))) ∧ ((((S.N b2 : Int)) ≤ (S.I x0 3)) → Q (.inl none) S) ∧ (¬ (((S.N b2 : Int)) ≤ (S.I x0 3)) → S.K x0 = 5 ∧ ∃ b3, S.R x0 1 = some b3 ∧ ((S.K b3 = 14 ∧ 0 ≤ x1 ∧ x1 < S.N b3) ∧ ((S.setJ b3 (x1).toNat x2).K x0 = 5 ∧ ∃ b4, (S.setJ b3 (x1).toNat x2).R x0 2 = some b4 ∧ ((S.setJ b3 (x1).toNat x2).K x0 = 5 ∧ (((S.setJ b3 (x1).toNat x2).K b4 = 13 ∧ 0 ≤ ((S.setJ b3 (x1).toNat x2).I x0 3) ∧ ((S.setJ b3 (x1).toNat x2).I x0 3) < (S.setJ b3 (x1).toNat x2).N b4) ∧ (((S.setJ b3 (x1).toNat x2).setI b4 (((S.setJ b3 (x1).toNat x2).I x0 3)).toNat x1).K x0 = 5 ∧ (((S.setJ b3 (x1).toNat x2).setI b4 (((S.setJ b3 (x1).toNat x2).I x0 3)).toNat x1).K x0 = 5 ∧ (∀ S5 : MS, S5 = ((S.setJ b3 (x1).toNat x2).setI b4 (((S.setJ b3 (x1).toNat x2).I x0 3)).toNat x1).setI x0 3 ((((S.setJ b3 (x1).toNat x2).setI b4 (((S.setJ b3 (x1).toNat x2).I x0 3)).toNat x1).I x0 3) + 1) → S5.K x0 = 5 ∧ (Mw hJ13_bitCount_95d88 yJ13_bitCount_95d88 d [vL x2] S5 (oI (fun r6 S6 => S6.K x0 = 5 ∧ (Q (.inl none) (S6.setI x0 0 ((S5.I x0 0) + r6))))))))))))))))))))))
theorem JX5_add_0 {d : Nat} {S0 : MS} {Q : Out → MS → Prop} (x0 : Nat) (x1 : Int) (x2 : BitVec 64) (S : MS) (h : VX5_add_0 d Q x0 x1 x2 S) : Jw FinM RX5 cX5_add 4 none [] yX5_add (d + 1) S0 S 0 [(0, vA x0), (1, vI x1), (2, vL x2)] [] Q :=
  j_lload_n 2 dX5_add_0 rfl (j_lconst dX5_add_1 rfl (j_lcmp dX5_add_2 (j_if_eq (tgt := 71) dX5_add_3 (by decide) h (fun h => j_vret rfl dX5_add_71 h) (fun h => j_iload_n 1 dX5_add_6 rfl (j_if_lt (tgt := 71) dX5_add_7 (by decide) h (fun h => j_vret rfl dX5_add_71 h) (fun h => j_iload_n 1 dX5_add_10 rfl (j_aload_n 0 dX5_add_11 rfl (j_getR 5 1 f_RX5_15 dX5_add_12 h (fun b1 h => j_alen dX5_add_15 h (fun h => j_icmp_ge (tgt := 71) dX5_add_16 (by decide) h (fun h => j_vret rfl dX5_add_71 h) (fun h => j_aload_n 0 dX5_add_19 rfl (j_getI 5 3 f_RX5_23 dX5_add_20 h (fun h => j_aload_n 0 dX5_add_23 rfl (j_getR 5 2 f_RX5_19 dX5_add_24 h (fun b2 h => j_alen dX5_add_27 h (fun h => j_icmp_ge (tgt := 71) dX5_add_28 (by decide) h (fun h => j_vret rfl dX5_add_71 h) (fun h => j_aload_n 0 dX5_add_31 rfl (j_getR 5 1 f_RX5_15 dX5_add_32 h (fun b3 h => j_iload_n 1 dX5_add_35 rfl (j_lload_n 2 dX5_add_36 rfl (j_last dX5_add_37 h (fun h => j_aload_n 0 dX5_add_38 rfl (j_getR 5 2 f_RX5_19 dX5_add_39 h (fun b4 h => j_aload_n 0 dX5_add_42 rfl (j_getI 5 3 f_RX5_23 dX5_add_43 h (fun h => j_iload_n 1 dX5_add_46 rfl (j_iast dX5_add_47 h (fun h => j_aload_n 0 dX5_add_48 rfl (j_dup rfl dX5_add_49 (j_getI 5 3 f_RX5_23 dX5_add_50 h (fun h => j_iconst dX5_add_53 (j_iadd dX5_add_54 (j_putI 5 3 f_RX5_23 dX5_add_55 h (fun h => j_bind h (fun S5 h => j_aload_n 0 dX5_add_58 rfl (j_dup rfl dX5_add_59 (j_getI 5 0 f_RX5_9 dX5_add_60 h (fun h => j_lload_n 2 dX5_add_63 rfl (j_callS (rest := [vI (S5.I x0 0), vA x0]) [vL x2] k_RX5_26 w_3_14 rfl rfl (Nat.le_of_ble_eq_true rfl) dX5_add_64 h (kI (fun r6 S6 h => j_iadd dX5_add_67 (j_putI 5 0 f_RX5_9 dX5_add_68 h (fun h => j_vret rfl dX5_add_71 h)))) (fun _ _ h => h.elim))))))))))))))))))))))))))))))))))))))))
theorem MX5_add {d : Nat} {x0 : Nat} {x1 : Int} {x2 : BitVec 64} {S : MS} {Q : Out → MS → Prop} (h : VX5_add_0 d Q x0 x1 x2 S) : Mw hX5_add yX5_add (d + 1) [vA x0, vI x1, vL x2] S Q := Mw.ofJ (by decide) (Nat.le_of_ble_eq_true rfl) (JX5_add_0 _ _ _ S h)
theorem dX5_copy_0 : decode cX5_copy 0 = .ok (.aload_n 0, 1) := by decide +kernel
theorem dX5_copy_1 : decode cX5_copy 1 = .ok (.invokevirtual 32, 3) := by decide +kernel
theorem dX5_copy_4 : decode cX5_copy 4 = .ok (.iconst 0, 1) := by decide +kernel
theorem dX5_copy_5 : decode cX5_copy 5 = .ok (.istore_n 2, 1) := by decide +kernel
theorem dX5_copy_6 : decode cX5_copy 6 = .ok (.iload_n 2, 1) := by decide +kernel
theorem dX5_copy_7 : decode cX5_copy 7 = .ok (.aload_n 1, 1) := by decide +kernel
theorem dX5_copy_8 : decode cX5_copy 8 = .ok (.getfield 23, 3) := by decide +kernel
theorem dX5_copy_11 : decode cX5_copy 11 = .ok (.if_icmp .ge 30, 3) := by decide +kernel
theorem dX5_copy_14 : decode cX5_copy 14 = .ok (.aload_n 0, 1) := by decide +kernel
theorem dX5_copy_15 : decode cX5_copy 15 = .ok (.aload_n 1, 1) := by decide +kernel
theorem dX5_copy_16 : decode cX5_copy 16 = .ok (.getfield 19, 3) := by decide +kernel
theorem dX5_copy_19 : decode cX5_copy 19 = .ok (.iload_n 2, 1) := by decide +kernel
theorem dX5_copy_20 : decode cX5_copy 20 = .ok (.iaload, 1) := by decide +kernel
theorem dX5_copy_21 : decode cX5_copy 21 = .ok (.aload_n 1, 1) := by decide +kernel
theorem dX5_copy_22 : decode cX5_copy 22 = .ok (.getfield 15, 3) := by decide +kernel
theorem dX5_copy_25 : decode cX5_copy 25 = .ok (.aload_n 1, 1) := by decide +kernel
theorem dX5_copy_26 : decode cX5_copy 26 = .ok (.getfield 19, 3) := by decide +kernel
theorem dX5_copy_29 : decode cX5_copy 29 = .ok (.iload_n 2, 1) := by decide +kernel
theorem dX5_copy_30 : decode cX5_copy 30 = .ok (.iaload, 1) := by decide +kernel
theorem dX5_copy_31 : decode cX5_copy 31 = .ok (.laload, 1) := by decide +kernel
theorem dX5_copy_32 : decode cX5_copy 32 = .ok (.invokevirtual 35, 3) := by decide +kernel
theorem dX5_copy_35 : decode cX5_copy 35 = .ok (.iinc 2 1, 3) := by decide +kernel
theorem dX5_copy_38 : decode cX5_copy 38 = .ok (.goto (-32), 3) := by decide +kernel
theorem dX5_copy_41 : decode cX5_copy 41 = .ok (.return_, 1) := by decide +kernel
def VX5_copy_6 (d : Nat) (Q : Out → MS → Prop) : Nat → Nat → Nat → Int → MS → Prop
  | 0, _, _, _, _ => False
  | n + 1, x0, x1, x2, S => S.K x1 = 5 ∧ ((R32 x2 ∧ R32 (S.I x1 3)) ∧ (((S.I x1 3) ≤ x2) → Q (.inl none) S) ∧ (¬ ((S.I x1 3) ≤ x2) → S.K x1 = 5 ∧ ∃ b1, S.R x1 2 = some b1 ∧ ((S.K b1 = 13 ∧ 0 ≤ x2 ∧ x2 < S.N b1) ∧ (S.K x1 = 5 ∧ ∃ b2, S.R x1 1 = some b2 ∧ (S.K x1 = 5 ∧ ∃ b3, S.R x1 2 = some b3 ∧ ((S.K b3 = 13 ∧ 0 ≤ x2 ∧ x2 < S.N b3) ∧ ((S.K b2 = 14 ∧ 0 ≤ (S.I b3 (x2).toNat) ∧ (S.I b3 (x2).toNat) < S.N b2) ∧ (S.K x0 = 5 ∧ Mw hX5_add yX5_add d [vA x0, vI (S.I b1 (x2).toNat), vL (S.J b2 ((S.I b3 (x2).toNat)).toNat)] S (oV (fun S4 => (VX5_copy_6 d Q n) x0 x1 (x2 + 1) S4))))))))))
theorem JX5_copy_6 {d : Nat} {S0 : MS} {Q : Out → MS → Prop} : ∀ (n : Nat) (x0 : Nat) (x1 : Nat) (x2 : Int) (S : MS), VX5_copy_6 d Q n x0 x1 x2 S → Jw FinM RX5 cX5_copy 3 none [] yX5_copy (d + 1) S0 S 6 [(0, vA x0), (1, vA x1), (2, vI x2)] [] Q := by
  intro n
  induction n with
  | zero => intro x0 x1 x2 S h; exact h.elim
  | succ n ih =>
    intro x0 x1 x2 S h
    exact j_iload_n 2 dX5_copy_6 rfl (j_aload_n 1 dX5_copy_7 rfl (j_getI 5 3 f_RX5_23 dX5_copy_8 h (fun h => j_icmp_ge (tgt := 41) dX5_copy_11 (by decide) h (fun h => j_vret rfl dX5_copy_41 h) (fun h => j_aload_n 0 dX5_copy_14 rfl (j_aload_n 1 dX5_copy_15 rfl (j_getR 5 2 f_RX5_19 dX5_copy_16 h (fun b1 h => j_iload_n 2 dX5_copy_19 rfl (j_iald dX5_copy_20 h (fun h => j_aload_n 1 dX5_copy_21 rfl (j_getR 5 1 f_RX5_15 dX5_copy_22 h (fun b2 h => j_aload_n 1 dX5_copy_25 rfl (j_getR 5 2 f_RX5_19 dX5_copy_26 h (fun b3 h => j_iload_n 2 dX5_copy_29 rfl (j_iald dX5_copy_30 h (fun h => j_lald dX5_copy_31 h (fun h => j_callV (rest := []) 5 [vI (S.I b1 (x2).toNat), vL (S.J b2 ((S.I b3 (x2).toNat)).toNat)] k_RX5_35 ⟨w_3_10, w_3_11⟩ ⟨_, _, rfl⟩ (by decide) rfl rfl (Nat.le_of_ble_eq_true rfl) dX5_copy_32 h (kV (fun S4 h => j_iinc 2 (lv2 := [(2, vI (x2 + 1)), (0, vA x0), (1, vA x1)]) dX5_copy_35 rfl (by decide) rfl (j_goto (tgt := 6) dX5_copy_38 (by decide) (j_sub [1, 2, 0] rfl (ih _ _ _ _ h))))) (fun _ _ h => h.elim)))))))))))))))))
def VX5_copy_0 (d : Nat) (Q : Out → MS → Prop) (x0 : Nat) (x1 : Nat) (S : MS) : Prop :=
  S.K x0 = 5 ∧ Mw hX5_clear yX5_clear d [vA x0] S (oV (fun S1 => ∃ m, VX5_copy_6 d Q m x0 x1 0 S1))
theorem JX5_copy_0 {d : Nat} {S0 : MS} {Q : Out → MS → Prop} (x0 : Nat) (x1 : Nat) (S : MS) (h : VX5_copy_0 d Q x0 x1 S) : Jw FinM RX5 cX5_copy 3 none [] yX5_copy (d + 1) S0 S 0 [(0, vA x0), (1, vA x1)] [] Q :=
  j_aload_n 0 dX5_copy_0 rfl (j_callV (rest := []) 5 [] k_RX5_32 ⟨w_3_1, w_3_2⟩ ⟨_, _, rfl⟩ (by decide) rfl rfl (Nat.le_of_ble_eq_true rfl) dX5_copy_1 h (kV (fun S1 h => j_iconst dX5_copy_4 (j_istore_n (lv2 := [(2, vI 0), (0, vA x0), (1, vA x1)]) dX5_copy_5 (by decide) rfl (Exists.elim h (fun m h => j_sub [1, 2, 0] rfl (JX5_copy_6 m _ _ _ _ h)))))) (fun _ _ h => h.elim))
theorem MX5_copy {d : Nat} {x0 : Nat} {x1 : Nat} {S : MS} {Q : Out → MS → Prop} (h : VX5_copy_0 d Q x0 x1 S) : Mw hX5_copy yX5_copy (d + 1) [vA x0, vA x1] S Q := Mw.ofJ (by decide) (Nat.le_of_ble_eq_true rfl) (JX5_copy_0 _ _ S h)
theorem dX5_copyAll_0 : decode cX5_copyAll 0 = .ok (.aload_n 0, 1) := by decide +kernel
theorem dX5_copyAll_1 : decode cX5_copyAll 1 = .ok (.invokevirtual 32, 3) := by decide +kernel
theorem dX5_copyAll_4 : decode cX5_copyAll 4 = .ok (.iconst 0, 1) := by decide +kernel
theorem dX5_copyAll_5 : decode cX5_copyAll 5 = .ok (.istore_n 2, 1) := by decide +kernel
theorem dX5_copyAll_6 : decode cX5_copyAll 6 = .ok (.iload_n 2, 1) := by decide +kernel
theorem dX5_copyAll_7 : decode cX5_copyAll 7 = .ok (.aload_n 1, 1) := by decide +kernel
theorem dX5_copyAll_8 : decode cX5_copyAll 8 = .ok (.arraylength, 1) := by decide +kernel
theorem dX5_copyAll_9 : decode cX5_copyAll 9 = .ok (.if_icmp .ge 17, 3) := by decide +kernel
theorem dX5_copyAll_12 : decode cX5_copyAll 12 = .ok (.aload_n 0, 1) := by decide +kernel
theorem dX5_copyAll_13 : decode cX5_copyAll 13 = .ok (.iload_n 2, 1) := by decide +kernel
theorem dX5_copyAll_14 : decode cX5_copyAll 14 = .ok (.aload_n 1, 1) := by decide +kernel
theorem dX5_copyAll_15 : decode cX5_copyAll 15 = .ok (.iload_n 2, 1) := by decide +kernel
theorem dX5_copyAll_16 : decode cX5_copyAll 16 = .ok (.laload, 1) := by decide +kernel
theorem dX5_copyAll_17 : decode cX5_copyAll 17 = .ok (.invokevirtual 35, 3) := by decide +kernel
theorem dX5_copyAll_20 : decode cX5_copyAll 20 = .ok (.iinc 2 1, 3) := by decide +kernel
theorem dX5_copyAll_23 : decode cX5_copyAll 23 = .ok (.goto (-17), 3) := by decide +kernel
theorem dX5_copyAll_26 : decode cX5_copyAll 26 = .ok (.return_, 1) := by decide +kernel
def VX5_copyAll_6 (d : Nat) (Q : Out → MS → Prop) : Nat → Nat → Nat → Int → MS → Prop
  | 0, _, _, _, _ => False
  | n + 1, x0, x1, x2, S => (12 ≤ S.K x1 ∧ S.K x1 < 21) ∧ ((R32 x2 ∧ R32 ((S.N x1 : Int))) ∧ ((((S.N x1 : Int)) ≤ x2) → Q (.inl none) S) ∧ (¬ (((S.N x1 : Int)) ≤ x2) → (S.K x1 = 14 ∧ 0 ≤ x2 ∧ x2 < S.N x1) ∧ (S.K x0 = 5 ∧ Mw hX5_add yX5_add d [vA x0, vI x2, vL (S.J x1 (x2).toNat)] S (oV (fun S1 => (VX5_copyAll_6 d Q n) x0 x1 (x2 + 1) S1)))))
theorem JX5_copyAll_6 {d : Nat} {S0 : MS} {Q : Out → MS → Prop} : ∀ (n : Nat) (x0 : Nat) (x1 : Nat) (x2 : Int) (S : MS), VX5_copyAll_6 d Q n x0 x1 x2 S → Jw FinM RX5 cX5_copyAll 3 none [] yX5_copyAll (d + 1) S0 S 6 [(0, vA x0), (1, vA x1), (2, vI x2)] [] Q := by
  intro n
  induction n with
  | zero => intro x0 x1 x2 S h; exact h.elim
  | succ n ih =>
    intro x0 x1 x2 S h
    exact j_iload_n 2 dX5_copyAll_6 rfl (j_aload_n 1 dX5_copyAll_7 rfl (j_alen dX5_copyAll_8 h (fun h => j_icmp_ge (tgt := 26) dX5_copyAll_9 (by decide) h (fun h => j_vret rfl dX5_copyAll_26 h) (fun h => j_aload_n 0 dX5_copyAll_12 rfl (j_iload_n 2 dX5_copyAll_13 rfl (j_aload_n 1 dX5_copyAll_14 rfl (j_iload_n 2 dX5_copyAll_15 rfl (j_lald dX5_copyAll_16 h (fun h => j_callV (rest := []) 5 [vI x2, vL (S.J x1 (x2).toNat)] k_RX5_35 ⟨w_3_10, w_3_11⟩ ⟨_, _, rfl⟩ (by decide) rfl rfl (Nat.le_of_ble_eq_true rfl) dX5_copyAll_17 h (kV (fun S1 h => j_iinc 2 (lv2 := [(2, vI (x2 + 1)), (0, vA x0), (1, vA x1)]) dX5_copyAll_20 rfl (by decide) rfl (j_goto (tgt := 6) dX5_copyAll_23 (by decide) (j_sub [1, 2, 0] rfl (ih _ _ _ _ h))))) (fun _ _ h => h.elim))))))))))
def VX5_copyAll_0 (d : Nat) (Q : Out → MS → Prop) (x0 : Nat) (x1 : Nat) (S : MS) : Prop :=
  S.K x0 = 5 ∧ Mw hX5_clear yX5_clear d [vA x0] S (oV (fun S1 => ∃ m, VX5_copyAll_6 d Q m x0 x1 0 S1))
theorem JX5_copyAll_0 {d : Nat} {S0 : MS} {Q : Out → MS → Prop} (x0 : Nat) (x1 : Nat) (S : MS) (h : VX5_copyAll_0 d Q x0 x1 S) : Jw FinM RX5 cX5_copyAll 3 none [] yX5_copyAll (d + 1) S0 S 0 [(0, vA x0), (1, vA x1)] [] Q :=
  j_aload_n 0 dX5_copyAll_0 rfl (j_callV (rest := []) 5 [] k_RX5_32 ⟨w_3_1, w_3_2⟩ ⟨_, _, rfl⟩ (by decide) rfl rfl (Nat.le_of_ble_eq_true rfl) dX5_copyAll_1 h (kV (fun S1 h => j_iconst dX5_copyAll_4 (j_istore_n (lv2 := [(2, vI 0), (0, vA x0), (1, vA x1)]) dX5_copyAll_5 (by decide) rfl (Exists.elim h (fun m h => j_sub [1, 2, 0] rfl (JX5_copyAll_6 m _ _ _ _ h)))))) (fun _ _ h => h.elim))
theorem MX5_copyAll {d : Nat} {x0 : Nat} {x1 : Nat} {S : MS} {Q : Out → MS → Prop} (h : VX5_copyAll_0 d Q x0 x1 S) : Mw hX5_copyAll yX5_copyAll (d + 1) [vA x0, vA x1] S Q := Mw.ofJ (by decide) (Nat.le_of_ble_eq_true rfl) (JX5_copyAll_0 _ _ S h)
theorem dX5_take_0 : decode cX5_take 0 = .ok (.aload_n 0, 1) := by decide +kernel
theorem dX5_take_1 : decode cX5_take 1 = .ok (.invokevirtual 32, 3) := by decide +kernel
theorem dX5_take_4 : decode cX5_take 4 = .ok (.iconst 0, 1) := by decide +kernel
theorem dX5_take_5 : decode cX5_take 5 = .ok (.istore_n 3, 1) := by decide +kernel
theorem dX5_take_6 : decode cX5_take 6 = .ok (.iload_n 3, 1) := by decide +kernel
theorem dX5_take_7 : decode cX5_take 7 = .ok (.aload_n 1, 1) := by decide +kernel
theorem dX5_take_8 : decode cX5_take 8 = .ok (.getfield 23, 3) := by decide +kernel
theorem dX5_take_11 : decode cX5_take 11 = .ok (.if_icmp .ge 46, 3) := by decide +kernel
theorem dX5_take_14 : decode cX5_take 14 = .ok (.aload_n 1, 1) := by decide +kernel
theorem dX5_take_15 : decode cX5_take 15 = .ok (.getfield 19, 3) := by decide +kernel
theorem dX5_take_18 : decode cX5_take 18 = .ok (.iload_n 3, 1) := by decide +kernel
theorem dX5_take_19 : decode cX5_take 19 = .ok (.iaload, 1) := by decide +kernel
theorem dX5_take_20 : decode cX5_take 20 = .ok (.istore 4, 2) := by decide +kernel
theorem dX5_take_22 : decode cX5_take 22 = .ok (.aload_n 0, 1) := by decide +kernel
theorem dX5_take_23 : decode cX5_take 23 = .ok (.iload 4, 2) := by decide +kernel
theorem dX5_take_25 : decode cX5_take 25 = .ok (.iload 4, 2) := by decide +kernel
theorem dX5_take_27 : decode cX5_take 27 = .ok (.aload_n 2, 1) := by decide +kernel
theorem dX5_take_28 : decode cX5_take 28 = .ok (.arraylength, 1) := by decide +kernel
theorem dX5_take_29 : decode cX5_take 29 = .ok (.if_icmp .ge 18, 3) := by decide +kernel
theorem dX5_take_32 : decode cX5_take 32 = .ok (.aload_n 1, 1) := by decide +kernel
theorem dX5_take_33 : decode cX5_take 33 = .ok (.getfield 15, 3) := by decide +kernel
theorem dX5_take_36 : decode cX5_take 36 = .ok (.iload 4, 2) := by decide +kernel
theorem dX5_take_38 : decode cX5_take 38 = .ok (.laload, 1) := by decide +kernel
theorem dX5_take_39 : decode cX5_take 39 = .ok (.aload_n 2, 1) := by decide +kernel
theorem dX5_take_40 : decode cX5_take 40 = .ok (.iload 4, 2) := by decide +kernel
theorem dX5_take_42 : decode cX5_take 42 = .ok (.laload, 1) := by decide +kernel
theorem dX5_take_43 : decode cX5_take 43 = .ok (.land, 1) := by decide +kernel
theorem dX5_take_44 : decode cX5_take 44 = .ok (.goto 4, 3) := by decide +kernel
theorem dX5_take_47 : decode cX5_take 47 = .ok (.lconst 0, 1) := by decide +kernel
theorem dX5_take_48 : decode cX5_take 48 = .ok (.invokevirtual 35, 3) := by decide +kernel
theorem dX5_take_51 : decode cX5_take 51 = .ok (.iinc 3 1, 3) := by decide +kernel
theorem dX5_take_54 : decode cX5_take 54 = .ok (.goto (-48), 3) := by decide +kernel
theorem dX5_take_57 : decode cX5_take 57 = .ok (.return_, 1) := by decide +kernel
def VX5_take_48 (d : Nat) (c6 : Nat → Nat → Nat → Int → MS → Prop) (Q : Out → MS → Prop) (x0 : Nat) (x1 : Nat) (x2 : Nat) (x3 : Int) (t0 : BitVec 64) (t1 : Int) (t2 : Nat) (S : MS) : Prop :=
  S.K t2 = 5 ∧ Mw hX5_add yX5_add d [vA t2, vI t1, vL t0] S (oV (fun S1 => c6 x0 x1 x2 (x3 + 1) S1))
theorem JX5_take_48 {d : Nat} {c6 : Nat → Nat → Nat → Int → MS → Prop} {S0 : MS} {Q : Out → MS → Prop} (hc6 : ∀ (x0 : Nat) (x1 : Nat) (x2 : Nat) (x3 : Int) (S : MS), c6 x0 x1 x2 x3 S → Jw FinM RX5 cX5_take 5 none [] yX5_take (d + 1) S0 S 6 [(0, vA x0), (1, vA x1), (2, vA x2), (3, vI x3)] [] Q) (x0 : Nat) (x1 : Nat) (x2 : Nat) (x3 : Int) (t0 : BitVec 64) (t1 : Int) (t2 : Nat) (S : MS) (h : VX5_take_48 d c6 Q x0 x1 x2 x3 t0 t1 t2 S) : Jw FinM RX5 cX5_take 5 none [] yX5_take (d + 1) S0 S 48 [(0, vA x0), (1, vA x1), (2, vA x2), (3, vI x3)] [vL t0, vI t1, vA t2] Q :=
  j_callV (rest := []) 5 [vI t1, vL t0] k_RX5_35 ⟨w_3_10, w_3_11⟩ ⟨_, _, rfl⟩ (by decide) rfl rfl (Nat.le_of_ble_eq_true rfl) dX5_take_48 h (kV (fun S1 h => j_iinc 3 (lv2 := [(3, vI (x3 + 1)), (0, vA x0), (1, vA x1), (2, vA x2)]) dX5_take_51 rfl (by decide) rfl (j_goto (tgt := 6) dX5_take_54 (by decide) (j_sub [1, 2, 3, 0] rfl (hc6 _ _ _ _ _ h))))) (fun _ _ h => h.elim)
def VX5_take_6 (d : Nat) (Q : Out → MS → Prop) : Nat → Nat → Nat → Nat → Int → MS → Prop
  | 0, _, _, _, _, _ => False
  | n + 1, x0, x1, x2, x3, S => S.K x1 = 5 ∧ ((R32 x3 ∧ R32 (S.I x1 3)) ∧ (((S.I x1 3) ≤ x3) → Q (.inl none) S) ∧ (¬ ((S.I x1 3) ≤ x3) → S.K x1 = 5 ∧ ∃ b1, S.R x1 2 = some b1 ∧ ((S.K b1 = 13 ∧ 0 ≤ x3 ∧ x3 < S.N b1) ∧ ((12 ≤ S.K x2 ∧ S.K x2 < 21) ∧ ((R32 (S.I b1 (x3).toNat) ∧ R32 ((S.N x2 : Int))) ∧ ((((S.N x2 : Int)) ≤ (S.I b1 (x3).toNat)) → VX5_take_48 d (VX5_take_6 d Q n) Q x0 x1 x2 x3 (0#64) (S.I b1 (x3).toNat) x0 S) ∧ (¬ (((S.N x2 : Int)) ≤ (S.I b1 (x3).toNat)) → S.K x1 = 5 ∧ ∃ b2, S.R x1 1 = some b2 ∧ ((S.K b2 = 14 ∧ 0 ≤ (S.I b1 (x3).toNat) ∧ (S.I b1 (x3).toNat) < S.N b2) ∧ ((S.K x2 = 14 ∧ 0 ≤ (S.I b1 (x3).toNat) ∧ (S.I b1 (x3).toNat) < S.N x2) ∧ (VX5_take_48 d (VX5_take_6 d Q n) Q x0 x1 x2 x3 ((S.J b2 ((S.I b1 (x3).toNat)).toNat) &&& (S.J x2 ((S.I b1 (x3).toNat)).toNat)) (S.I b1 (x3).toNat) x0 S)))))))))
theorem JX5_take_6 {d : Nat} {S0 : MS} {Q : Out → MS → Prop} : ∀ (n : Nat) (x0 : Nat) (x1 : Nat) (x2 : Nat) (x3 : Int) (S : MS), VX5_take_6 d Q n x0 x1 x2 x3 S → Jw FinM RX5 cX5_take 5 none [] yX5_take (d + 1) S0 S 6 [(0, vA x0), (1, vA x1), (2, vA x2), (3, vI x3)] [] Q := by
  intro n
  induction n with
  | zero => intro x0 x1 x2 x3 S h; exact h.elim
  | succ n ih =>
    intro x0 x1 x2 x3 S h
    exact j_iload_n 3 dX5_take_6 rfl (j_aload_n 1 dX5_take_7 rfl (j_getI 5 3 f_RX5_23 dX5_take_8 h (fun h => j_icmp_ge (tgt := 57) dX5_take_11 (by decide) h (fun h => j_vret rfl dX5_take_57 h) (fun h => j_aload_n 1 dX5_take_14 rfl (j_getR 5 2 f_RX5_19 dX5_take_15 h (fun b1 h => j_iload_n 3 dX5_take_18 rfl (j_iald dX5_take_19 h (fun h => j_istore (lv2 := [(4, vI (S.I b1 (x3).toNat)), (0, vA x0), (1, vA x1), (2, vA x2), (3, vI x3)]) dX5_take_20 (by decide) rfl (j_aload_n 1 dX5_take_22 rfl (j_iload 0 dX5_take_23 rfl (j_iload 0 dX5_take_25 rfl (j_aload_n 3 dX5_take_27 rfl (j_alen dX5_take_28 h (fun h => j_icmp_ge (tgt := 47) dX5_take_29 (by decide) h (fun h => j_lconst dX5_take_47 rfl (j_sub [1, 2, 3, 4] rfl (JX5_take_48 ih _ _ _ _ _ _ _ _ h))) (fun h => j_aload_n 2 dX5_take_32 rfl (j_getR 5 1 f_RX5_15 dX5_take_33 h (fun b2 h => j_iload 0 dX5_take_36 rfl (j_lald dX5_take_38 h (fun h => j_aload_n 3 dX5_take_39 rfl (j_iload 0 dX5_take_40 rfl (j_lald dX5_take_42 h (fun h => j_land dX5_take_43 (j_goto (tgt := 48) dX5_take_44 (by decide) (j_sub [1, 2, 3, 4] rfl (JX5_take_48 ih _ _ _ _ _ _ _ _ h)))))))))))))))))))))))))
def VX5_take_0 (d : Nat) (Q : Out → MS → Prop) (x0 : Nat) (x1 : Nat) (x2 : Nat) (S : MS) : Prop :=
  S.K x0 = 5 ∧ Mw hX5_clear yX5_clear d [vA x0] S (oV (fun S1 => ∃ m, VX5_take_6 d Q m x0 x1 x2 0 S1))
theorem JX5_take_0 {d : Nat} {S0 : MS} {Q : Out → MS → Prop} (x0 : Nat) (x1 : Nat) (x2 : Nat) (S : MS) (h : VX5_take_0 d Q x0 x1 x2 S) : Jw FinM RX5 cX5_take 5 none [] yX5_take (d + 1) S0 S 0 [(0, vA x0), (1, vA x1), (2, vA x2)] [] Q :=
  j_aload_n 0 dX5_take_0 rfl (j_callV (rest := []) 5 [] k_RX5_32 ⟨w_3_1, w_3_2⟩ ⟨_, _, rfl⟩ (by decide) rfl rfl (Nat.le_of_ble_eq_true rfl) dX5_take_1 h (kV (fun S1 h => j_iconst dX5_take_4 (j_istore_n (lv2 := [(3, vI 0), (0, vA x0), (1, vA x1), (2, vA x2)]) dX5_take_5 (by decide) rfl (Exists.elim h (fun m h => j_sub [1, 2, 3, 0] rfl (JX5_take_6 m _ _ _ _ _ h)))))) (fun _ _ h => h.elim))
theorem MX5_take {d : Nat} {x0 : Nat} {x1 : Nat} {x2 : Nat} {S : MS} {Q : Out → MS → Prop} (h : VX5_take_0 d Q x0 x1 x2 S) : Mw hX5_take yX5_take (d + 1) [vA x0, vA x1, vA x2] S Q := Mw.ofJ (by decide) (Nat.le_of_ble_eq_true rfl) (JX5_take_0 _ _ _ S h)
theorem dX5_narrow_0 : decode cX5_narrow 0 = .ok (.aload_n 0, 1) := by decide +kernel
theorem dX5_narrow_1 : decode cX5_narrow 1 = .ok (.getfield 23, 3) := by decide +kernel
theorem dX5_narrow_4 : decode cX5_narrow 4 = .ok (.istore_n 2, 1) := by decide +kernel
theorem dX5_narrow_5 : decode cX5_narrow 5 = .ok (.aload_n 0, 1) := by decide +kernel
theorem dX5_narrow_6 : decode cX5_narrow 6 = .ok (.iconst 0, 1) := by decide +kernel
theorem dX5_narrow_7 : decode cX5_narrow 7 = .ok (.putfield 9, 3) := by decide +kernel
theorem dX5_narrow_10 : decode cX5_narrow 10 = .ok (.aload_n 0, 1) := by decide +kernel
theorem dX5_narrow_11 : decode cX5_narrow 11 = .ok (.iconst 0, 1) := by decide +kernel
theorem dX5_narrow_12 : decode cX5_narrow 12 = .ok (.putfield 23, 3) := by decide +kernel
theorem dX5_narrow_15 : decode cX5_narrow 15 = .ok (.iconst 0, 1) := by decide +kernel
theorem dX5_narrow_16 : decode cX5_narrow 16 = .ok (.istore_n 3, 1) := by decide +kernel
theorem dX5_narrow_17 : decode cX5_narrow 17 = .ok (.iload_n 3, 1) := by decide +kernel
theorem dX5_narrow_18 : decode cX5_narrow 18 = .ok (.iload_n 2, 1) := by decide +kernel
theorem dX5_narrow_19 : decode cX5_narrow 19 = .ok (.if_icmp .ge 58, 3) := by decide +kernel
theorem dX5_narrow_22 : decode cX5_narrow 22 = .ok (.aload_n 0, 1) := by decide +kernel
theorem dX5_narrow_23 : decode cX5_narrow 23 = .ok (.getfield 19, 3) := by decide +kernel
theorem dX5_narrow_26 : decode cX5_narrow 26 = .ok (.iload_n 3, 1) := by decide +kernel
theorem dX5_narrow_27 : decode cX5_narrow 27 = .ok (.iaload, 1) := by decide +kernel
theorem dX5_narrow_28 : decode cX5_narrow 28 = .ok (.istore 4, 2) := by decide +kernel
theorem dX5_narrow_30 : decode cX5_narrow 30 = .ok (.iload 4, 2) := by decide +kernel
theorem dX5_narrow_32 : decode cX5_narrow 32 = .ok (.aload_n 1, 1) := by decide +kernel
theorem dX5_narrow_33 : decode cX5_narrow 33 = .ok (.arraylength, 1) := by decide +kernel
theorem dX5_narrow_34 : decode cX5_narrow 34 = .ok (.if_icmp .ge 18, 3) := by decide +kernel
theorem dX5_narrow_37 : decode cX5_narrow 37 = .ok (.aload_n 0, 1) := by decide +kernel
theorem dX5_narrow_38 : decode cX5_narrow 38 = .ok (.getfield 15, 3) := by decide +kernel
theorem dX5_narrow_41 : decode cX5_narrow 41 = .ok (.iload 4, 2) := by decide +kernel
theorem dX5_narrow_43 : decode cX5_narrow 43 = .ok (.laload, 1) := by decide +kernel
theorem dX5_narrow_44 : decode cX5_narrow 44 = .ok (.aload_n 1, 1) := by decide +kernel
theorem dX5_narrow_45 : decode cX5_narrow 45 = .ok (.iload 4, 2) := by decide +kernel
theorem dX5_narrow_47 : decode cX5_narrow 47 = .ok (.laload, 1) := by decide +kernel
theorem dX5_narrow_48 : decode cX5_narrow 48 = .ok (.land, 1) := by decide +kernel
theorem dX5_narrow_49 : decode cX5_narrow 49 = .ok (.goto 4, 3) := by decide +kernel
theorem dX5_narrow_52 : decode cX5_narrow 52 = .ok (.lconst 0, 1) := by decide +kernel
theorem dX5_narrow_53 : decode cX5_narrow 53 = .ok (.lstore 5, 2) := by decide +kernel
theorem dX5_narrow_55 : decode cX5_narrow 55 = .ok (.aload_n 0, 1) := by decide +kernel
theorem dX5_narrow_56 : decode cX5_narrow 56 = .ok (.getfield 15, 3) := by decide +kernel
theorem dX5_narrow_59 : decode cX5_narrow 59 = .ok (.iload 4, 2) := by decide +kernel
theorem dX5_narrow_61 : decode cX5_narrow 61 = .ok (.lconst 0, 1) := by decide +kernel
theorem dX5_narrow_62 : decode cX5_narrow 62 = .ok (.lastore, 1) := by decide +kernel
theorem dX5_narrow_63 : decode cX5_narrow 63 = .ok (.aload_n 0, 1) := by decide +kernel
theorem dX5_narrow_64 : decode cX5_narrow 64 = .ok (.iload 4, 2) := by decide +kernel
theorem dX5_narrow_66 : decode cX5_narrow 66 = .ok (.lload 5, 2) := by decide +kernel
theorem dX5_narrow_68 : decode cX5_narrow 68 = .ok (.invokevirtual 35, 3) := by decide +kernel
theorem dX5_narrow_71 : decode cX5_narrow 71 = .ok (.iinc 3 1, 3) := by decide +kernel
theorem dX5_narrow_74 : decode cX5_narrow 74 = .ok (.goto (-57), 3) := by decide +kernel
theorem dX5_narrow_77 : decode cX5_narrow 77 = .ok (.return_, 1) := by decide +kernel
def VX5_narrow_53 (d : Nat) (c17 : Nat → Nat → Int → Int → MS → Prop) (Q : Out → MS → Prop) (x0 : Nat) (x1 : Nat) (x2 : Int) (x3 : Int) (x4 : Int) (t0 : BitVec 64) (S : MS) : Prop :=
  S.K x0 = 5 ∧ ∃ b1, S.R x0 1 = some b1 ∧ ((S.K b1 = 14 ∧ 0 ≤ x4 ∧ x4 < S.N b1) ∧ ((S.setJ b1 (x4).toNat (0#64)).K x0 = 5 ∧ Mw hX5_add yX5_add d [vA x0, vI x4, vL t0] (S.setJ b1 (x4).toNat (0#64)) (oV (fun S2 => c17 x0 x1 x2 (x3 + 1) S2))))
theorem JX5_narrow_53 {d : Nat} {c17 : Nat → Nat → Int → Int → MS → Prop} {S0 : MS} {Q : Out → MS → Prop} (hc17 : ∀ (x0 : Nat) (x1 : Nat) (x2 : Int) (x3 : Int) (S : MS), c17 x0 x1 x2 x3 S → Jw FinM RX5 cX5_narrow 7 none [] yX5_narrow (d + 1) S0 S 17 [(0, vA x0), (1, vA x1), (2, vI x2), (3, vI x3)] [] Q) (x0 : Nat) (x1 : Nat) (x2 : Int) (x3 : Int) (x4 : Int) (t0 : BitVec 64) (S : MS) (h : VX5_narrow_53 d c17 Q x0 x1 x2 x3 x4 t0 S) : Jw FinM RX5 cX5_narrow 7 none [] yX5_narrow (d + 1) S0 S 53 [(0, vA x0), (1, vA x1), (2, vI x2), (3, vI x3), (4, vI x4)] [vL t0] Q :=
  j_lstore (lv2 := [(5, vL t0), (0, vA x0), (1, vA x1), (2, vI x2), (3, vI x3), (4, vI x4)]) dX5_narrow_53 (by decide) rfl (j_aload_n 1 dX5_narrow_55 rfl (j_getR 5 1 f_RX5_15 dX5_narrow_56 h (fun b1 h => j_iload 5 dX5_narrow_59 rfl (j_lconst dX5_narrow_61 rfl (j_last dX5_narrow_62 h (fun h => j_aload_n 1 dX5_narrow_63 rfl (j_iload 5 dX5_narrow_64 rfl (j_lload 0 dX5_narrow_66 rfl (j_callV (rest := []) 5 [vI x4, vL t0] k_RX5_35 ⟨w_3_10, w_3_11⟩ ⟨_, _, rfl⟩ (by decide) rfl rfl (Nat.le_of_ble_eq_true rfl) dX5_narrow_68 h (kV (fun S2 h => j_iinc 4 (lv2 := [(3, vI (x3 + 1)), (5, vL t0), (0, vA x0), (1, vA x1), (2, vI x2), (4, vI x4)]) dX5_narrow_71 rfl (by decide) rfl (j_goto (tgt := 17) dX5_narrow_74 (by decide) (j_sub [2, 3, 4, 0] rfl (hc17 _ _ _ _ _ h))))) (fun _ _ h => h.elim))))))))))
def VX5_narrow_17 (d : Nat) (Q : Out → MS → Prop) : Nat → Nat → Nat → Int → Int → MS → Prop
  | 0, _, _, _, _, _ => False
  | n + 1, x0, x1, x2, x3, S => (R32 x3 ∧ R32 x2) ∧ ((x2 ≤ x3) → Q (.inl none) S) ∧ (¬ (x2 ≤ x3) → S.K x0 = 5 ∧ ∃ b1, S.R x0 2 = some b1 ∧ ((S.K b1 = 13 ∧ 0 ≤ x3 ∧ x3 < S.N b1) ∧ ((12 ≤ S.K x1 ∧ S.K x1 < 21) ∧ ((R32 (S.I b1 (x3).toNat) ∧ R32 ((S.N x1 : Int))) ∧ ((((S.N x1 : Int)) ≤ (S.I b1 (x3).toNat)) → VX5_narrow_53 d (VX5_narrow_17 d Q n) Q x0 x1 x2 x3 (S.I b1 (x3).toNat) (0#64) S) ∧ (¬ (((S.N x1 : Int)) ≤ (S.I b1 (x3).toNat)) → S.K x0 = 5 ∧ ∃ b2, S.R x0 1 = some b2 ∧ ((S.K b2 = 14 ∧ 0 ≤ (S.I b1 (x3).toNat) ∧ (S.I b1 (x3).toNat) < S.N b2) ∧ ((S.K x1 = 14 ∧ 0 ≤ (S.I b1 (x3).toNat) ∧ (S.I b1 (x3).toNat) < S.N x1) ∧ (VX5_narrow_53 d (VX5_narrow_17 d Q n) Q x0 x1 x2 x3 (S.I b1 (x3).toNat) ((S.J b2 ((S.I b1 (x3).toNat)).toNat) &&& (S.J x1 ((S.I b1 (x3).toNat)).toNat)) S))))))))
theorem JX5_narrow_17 {d : Nat} {S0 : MS} {Q : Out → MS → Prop} : ∀ (n : Nat) (x0 : Nat) (x1 : Nat) (x2 : Int) (x3 : Int) (S : MS), VX5_narrow_17 d Q n x0 x1 x2 x3 S → Jw FinM RX5 cX5_narrow 7 none [] yX5_narrow (d + 1) S0 S 17 [(0, vA x0), (1, vA x1), (2, vI x2), (3, vI x3)] [] Q := by
  intro n
  induction n with
  | zero => intro x0 x1 x2 x3 S h; exact h.elim
  | succ n ih =>
    intro x0 x1 x2 x3 S h
    exact j_iload_n 3 dX5_narrow_17 rfl (j_iload_n 2 dX5_narrow_18 rfl (j_icmp_ge (tgt := 77) dX5_narrow_19 (by decide) h (fun h => j_vret rfl dX5_narrow_77 h) (fun h => j_aload_n 0 dX5_narrow_22 rfl (j_getR 5 2 f_RX5_19 dX5_narrow_23 h (fun b1 h => j_iload_n 3 dX5_narrow_26 rfl (j_iald dX5_narrow_27 h (fun h => j_istore (lv2 := [(4, vI (S.I b1 (x3).toNat)), (0, vA x0), (1, vA x1), (2, vI x2), (3, vI x3)]) dX5_narrow_28 (by decide) rfl (j_iload 0 dX5_narrow_30 rfl (j_aload_n 2 dX5_narrow_32 rfl (j_alen dX5_narrow_33 h (fun h => j_icmp_ge (tgt := 52) dX5_narrow_34 (by decide) h (fun h => j_lconst dX5_narrow_52 rfl (j_sub [1, 2, 3, 4, 0] rfl (JX5_narrow_53 ih _ _ _ _ _ _ _ h))) (fun h => j_aload_n 1 dX5_narrow_37 rfl (j_getR 5 1 f_RX5_15 dX5_narrow_38 h (fun b2 h => j_iload 0 dX5_narrow_41 rfl (j_lald dX5_narrow_43 h (fun h => j_aload_n 2 dX5_narrow_44 rfl (j_iload 0 dX5_narrow_45 rfl (j_lald dX5_narrow_47 h (fun h => j_land dX5_narrow_48 (j_goto (tgt := 53) dX5_narrow_49 (by decide) (j_sub [1, 2, 3, 4, 0] rfl (JX5_narrow_53 ih _ _ _ _ _ _ _ h))))))))))))))))))))))
def VX5_narrow_0 (d : Nat) (Q : Out → MS → Prop) (x0 : Nat) (x1 : Nat) (S : MS) : Prop :=
  S.K x0 = 5 ∧ (S.K x0 = 5 ∧ ((S.setI x0 0 0).K x0 = 5 ∧ (∃ m, VX5_narrow_17 d Q m x0 x1 (S.I x0 3) 0 ((S.setI x0 0 0).setI x0 3 0))))
theorem JX5_narrow_0 {d : Nat} {S0 : MS} {Q : Out → MS → Prop} (x0 : Nat) (x1 : Nat) (S : MS) (h : VX5_narrow_0 d Q x0 x1 S) : Jw FinM RX5 cX5_narrow 7 none [] yX5_narrow (d + 1) S0 S 0 [(0, vA x0), (1, vA x1)] [] Q :=
  j_aload_n 0 dX5_narrow_0 rfl (j_getI 5 3 f_RX5_23 dX5_narrow_1 h (fun h => j_istore_n (lv2 := [(2, vI (S.I x0 3)), (0, vA x0), (1, vA x1)]) dX5_narrow_4 (by decide) rfl (j_aload_n 1 dX5_narrow_5 rfl (j_iconst dX5_narrow_6 (j_putI 5 0 f_RX5_9 dX5_narrow_7 h (fun h => j_aload_n 1 dX5_narrow_10 rfl (j_iconst dX5_narrow_11 (j_putI 5 3 f_RX5_23 dX5_narrow_12 h (fun h => j_iconst dX5_narrow_15 (j_istore_n (lv2 := [(3, vI 0), (2, vI (S.I x0 3)), (0, vA x0), (1, vA x1)]) dX5_narrow_16 (by decide) rfl (Exists.elim h (fun m h => j_sub [2, 3, 1, 0] rfl (JX5_narrow_17 m _ _ _ _ _ h)))))))))))))
theorem MX5_narrow {d : Nat} {x0 : Nat} {x1 : Nat} {S : MS} {Q : Out → MS → Prop} (h : VX5_narrow_0 d Q x0 x1 S) : Mw hX5_narrow yX5_narrow (d + 1) [vA x0, vA x1] S Q := Mw.ofJ (by decide) (Nat.le_of_ble_eq_true rfl) (JX5_narrow_0 _ _ S h)
theorem dX5_shared_0 : decode cX5_shared 0 = .ok (.iconst 0, 1) := by decide +kernel
theorem dX5_shared_1 : decode cX5_shared 1 = .ok (.istore_n 2, 1) := by decide +kernel
theorem dX5_shared_2 : decode cX5_shared 2 = .ok (.iconst 0, 1) := by decide +kernel
theorem dX5_shared_3 : decode cX5_shared 3 = .ok (.istore_n 3, 1) := by decide +kernel
theorem dX5_shared_4 : decode cX5_shared 4 = .ok (.iload_n 3, 1) := by decide +kernel
theorem dX5_shared_5 : decode cX5_shared 5 = .ok (.aload_n 0, 1) := by decide +kernel
theorem dX5_shared_6 : decode cX5_shared 6 = .ok (.getfield 23, 3) := by decide +kernel
theorem dX5_shared_9 : decode cX5_shared 9 = .ok (.if_icmp .ge 46, 3) := by decide +kernel
theorem dX5_shared_12 : decode cX5_shared 12 = .ok (.aload_n 0, 1) := by decide +kernel
theorem dX5_shared_13 : decode cX5_shared 13 = .ok (.getfield 19, 3) := by decide +kernel
theorem dX5_shared_16 : decode cX5_shared 16 = .ok (.iload_n 3, 1) := by decide +kernel
theorem dX5_shared_17 : decode cX5_shared 17 = .ok (.iaload, 1) := by decide +kernel
theorem dX5_shared_18 : decode cX5_shared 18 = .ok (.istore 4, 2) := by decide +kernel
theorem dX5_shared_20 : decode cX5_shared 20 = .ok (.iload_n 2, 1) := by decide +kernel
theorem dX5_shared_21 : decode cX5_shared 21 = .ok (.iload 4, 2) := by decide +kernel
theorem dX5_shared_23 : decode cX5_shared 23 = .ok (.aload_n 1, 1) := by decide +kernel
theorem dX5_shared_24 : decode cX5_shared 24 = .ok (.arraylength, 1) := by decide +kernel
theorem dX5_shared_25 : decode cX5_shared 25 = .ok (.if_icmp .ge 21, 3) := by decide +kernel
theorem dX5_shared_28 : decode cX5_shared 28 = .ok (.aload_n 0, 1) := by decide +kernel
theorem dX5_shared_29 : decode cX5_shared 29 = .ok (.getfield 15, 3) := by decide +kernel
theorem dX5_shared_32 : decode cX5_shared 32 = .ok (.iload 4, 2) := by decide +kernel
theorem dX5_shared_34 : decode cX5_shared 34 = .ok (.laload, 1) := by decide +kernel
theorem dX5_shared_35 : decode cX5_shared 35 = .ok (.aload_n 1, 1) := by decide +kernel
theorem dX5_shared_36 : decode cX5_shared 36 = .ok (.iload 4, 2) := by decide +kernel
theorem dX5_shared_38 : decode cX5_shared 38 = .ok (.laload, 1) := by decide +kernel
theorem dX5_shared_39 : decode cX5_shared 39 = .ok (.land, 1) := by decide +kernel
theorem dX5_shared_40 : decode cX5_shared 40 = .ok (.invokestatic 26, 3) := by decide +kernel
theorem dX5_shared_43 : decode cX5_shared 43 = .ok (.goto 4, 3) := by decide +kernel
theorem dX5_shared_46 : decode cX5_shared 46 = .ok (.iconst 0, 1) := by decide +kernel
theorem dX5_shared_47 : decode cX5_shared 47 = .ok (.iadd, 1) := by decide +kernel
theorem dX5_shared_48 : decode cX5_shared 48 = .ok (.istore_n 2, 1) := by decide +kernel
theorem dX5_shared_49 : decode cX5_shared 49 = .ok (.iinc 3 1, 3) := by decide +kernel
theorem dX5_shared_52 : decode cX5_shared 52 = .ok (.goto (-48), 3) := by decide +kernel
theorem dX5_shared_55 : decode cX5_shared 55 = .ok (.iload_n 2, 1) := by decide +kernel
theorem dX5_shared_56 : decode cX5_shared 56 = .ok (.ireturn, 1) := by decide +kernel
def VX5_shared_47 (d : Nat) (c4 : Nat → Nat → Int → Int → MS → Prop) (Q : Out → MS → Prop) (x0 : Nat) (x1 : Nat) (x3 : Int) (t0 : Int) (t1 : Int) (S : MS) : Prop :=
  c4 x0 x1 (t1 + t0) (x3 + 1) S
theorem JX5_shared_47 {d : Nat} {c4 : Nat → Nat → Int → Int → MS → Prop} {S0 : MS} {Q : Out → MS → Prop} (hc4 : ∀ (x0 : Nat) (x1 : Nat) (x2 : Int) (x3 : Int) (S : MS), c4 x0 x1 x2 x3 S → Jw FinM RX5 cX5_shared 5 (some .int) [] yX5_shared (d + 1) S0 S 4 [(0, vA x0), (1, vA x1), (2, vI x2), (3, vI x3)] [] Q) (x0 : Nat) (x1 : Nat) (x3 : Int) (t0 : Int) (t1 : Int) (S : MS) (h : VX5_shared_47 d c4 Q x0 x1 x3 t0 t1 S) : Jw FinM RX5 cX5_shared 5 (some .int) [] yX5_shared (d + 1) S0 S 47 [(0, vA x0), (1, vA x1), (3, vI x3)] [vI t0, vI t1] Q :=
  j_iadd dX5_shared_47 (j_istore_n (lv2 := [(2, vI (t1 + t0)), (0, vA x0), (1, vA x1), (3, vI x3)]) dX5_shared_48 (by decide) rfl (j_iinc 3 (lv2 := [(3, vI (x3 + 1)), (2, vI (t1 + t0)), (0, vA x0), (1, vA x1)]) dX5_shared_49 rfl (by decide) rfl (j_goto (tgt := 4) dX5_shared_52 (by decide) (j_sub [2, 3, 1, 0] rfl (hc4 _ _ _ _ _ h)))))
def VX5_shared_4 (d : Nat) (Q : Out → MS → Prop) : Nat → Nat → Nat → Int → Int → MS → Prop
  | 0, _, _, _, _, _ => False
  | n + 1, x0, x1, x2, x3, S => S.K x0 = 5 ∧ ((R32 x3 ∧ R32 (S.I x0 3)) ∧ (((S.I x0 3) ≤ x3) → Q (.inl (some (vI x2))) S) ∧ (¬ ((S.I x0 3) ≤ x3) → S.K x0 = 5 ∧ ∃ b1, S.R x0 2 = some b1 ∧ ((S.K b1 = 13 ∧ 0 ≤ x3 ∧ x3 < S.N b1) ∧ ((12 ≤ S.K x1 ∧ S.K x1 < 21) ∧ ((R32 (S.I b1 (x3).toNat) ∧ R32 ((S.N x1 : Int))) ∧ ((((S.N x1 : Int)) ≤ (S.I b1 (x3).toNat)) → VX5_shared_47 d (VX5_shared_4 d Q n) Q x0 x1 x3 0 x2 S) ∧ (¬ (((S.N x1 : Int)) ≤ (S.I b1 (x3).toNat)) → S.K x0 = 5 ∧ ∃ b2, S.R x0 1 = some b2 ∧ ((S.K b2 = 14 ∧ 0 ≤ (S.I b1 (x3).toNat) ∧ (S.I b1 (x3).toNat) < S.N b2) ∧ ((S.K x1 = 14 ∧ 0 ≤ (S.I b1 (x3).toNat) ∧ (S.I b1 (x3).toNat) < S.N x1) ∧ (Mw hJ13_bitCount_95d88 yJ13_bitCount_95d88 d [vL ((S.J b2 ((S.I b1 (x3).toNat)).toNat) &&& (S.J x1 ((S.I b1 (x3).toNat)).toNat))] S (oI (fun r3 S3 => VX5_shared_47 d (VX5_shared_4 d Q n) Q x0 x1 x3 r3 x2 S3)))))))))))
theorem JX5_shared_4 {d : Nat} {S0 : MS} {Q : Out → MS → Prop} : ∀ (n : Nat) (x0 : Nat) (x1 : Nat) (x2 : Int) (x3 : Int) (S : MS), VX5_shared_4 d Q n x0 x1 x2 x3 S → Jw FinM RX5 cX5_shared 5 (some .int) [] yX5_shared (d + 1) S0 S 4 [(0, vA x0), (1, vA x1), (2, vI x2), (3, vI x3)] [] Q := by
  intro n
  induction n with
  | zero => intro x0 x1 x2 x3 S h; exact h.elim
  | succ n ih =>
    intro x0 x1 x2 x3 S h
    exact j_iload_n 3 dX5_shared_4 rfl (j_aload_n 0 dX5_shared_5 rfl (j_getI 5 3 f_RX5_23 dX5_shared_6 h (fun h => j_icmp_ge (tgt := 55) dX5_shared_9 (by decide) h (fun h => j_iload_n 2 dX5_shared_55 rfl (j_iret rfl dX5_shared_56 h)) (fun h => j_aload_n 0 dX5_shared_12 rfl (j_getR 5 2 f_RX5_19 dX5_shared_13 h (fun b1 h => j_iload_n 3 dX5_shared_16 rfl (j_iald dX5_shared_17 h (fun h => j_istore (lv2 := [(4, vI (S.I b1 (x3).toNat)), (0, vA x0), (1, vA x1), (2, vI x2), (3, vI x3)]) dX5_shared_18 (by decide) rfl (j_iload_n 3 dX5_shared_20 rfl (j_iload 0 dX5_shared_21 rfl (j_aload_n 2 dX5_shared_23 rfl (j_alen dX5_shared_24 h (fun h => j_icmp_ge (tgt := 46) dX5_shared_25 (by decide) h (fun h => j_iconst dX5_shared_46 (j_sub [1, 2, 4] rfl (JX5_shared_47 ih _ _ _ _ _ _ h))) (fun h => j_aload_n 1 dX5_shared_28 rfl (j_getR 5 1 f_RX5_15 dX5_shared_29 h (fun b2 h => j_iload 0 dX5_shared_32 rfl (j_lald dX5_shared_34 h (fun h => j_aload_n 2 dX5_shared_35 rfl (j_iload 0 dX5_shared_36 rfl (j_lald dX5_shared_38 h (fun h => j_land dX5_shared_39 (j_callS (rest := [vI x2]) [vL ((S.J b2 ((S.I b1 (x3).toNat)).toNat) &&& (S.J x1 ((S.I b1 (x3).toNat)).toNat))] k_RX5_26 w_3_14 rfl rfl (Nat.le_of_ble_eq_true rfl) dX5_shared_40 h (kI (fun r3 S3 h => j_goto (tgt := 47) dX5_shared_43 (by decide) (j_sub [1, 2, 4] rfl (JX5_shared_47 ih _ _ _ _ _ _ h)))) (fun _ _ h => h.elim)))))))))))))))))))))))
def VX5_shared_0 (d : Nat) (Q : Out → MS → Prop) (x0 : Nat) (x1 : Nat) (S : MS) : Prop :=
  ∃ m, VX5_shared_4 d Q m x0 x1 0 0 S
theorem JX5_shared_0 {d : Nat} {S0 : MS} {Q : Out → MS → Prop} (x0 : Nat) (x1 : Nat) (S : MS) (h : VX5_shared_0 d Q x0 x1 S) : Jw FinM RX5 cX5_shared 5 (some .int) [] yX5_shared (d + 1) S0 S 0 [(0, vA x0), (1, vA x1)] [] Q :=
  j_iconst dX5_shared_0 (j_istore_n (lv2 := [(2, vI 0), (0, vA x0), (1, vA x1)]) dX5_shared_1 (by decide) rfl (j_iconst dX5_shared_2 (j_istore_n (lv2 := [(3, vI 0), (2, vI 0), (0, vA x0), (1, vA x1)]) dX5_shared_3 (by decide) rfl (Exists.elim h (fun m h => j_sub [2, 3, 1, 0] rfl (JX5_shared_4 m _ _ _ _ _ h))))))
theorem MX5_shared {d : Nat} {x0 : Nat} {x1 : Nat} {S : MS} {Q : Out → MS → Prop} (h : VX5_shared_0 d Q x0 x1 S) : Mw hX5_shared yX5_shared (d + 1) [vA x0, vA x1] S Q := Mw.ofJ (by decide) (Nat.le_of_ble_eq_true rfl) (JX5_shared_0 _ _ S h)
theorem dX5_meets_0 : decode cX5_meets 0 = .ok (.aload_n 0, 1) := by decide +kernel
theorem dX5_meets_1 : decode cX5_meets 1 = .ok (.aload_n 1, 1) := by decide +kernel
theorem dX5_meets_2 : decode cX5_meets 2 = .ok (.aload_n 1, 1) := by decide +kernel
theorem dX5_meets_3 : decode cX5_meets 3 = .ok (.invokevirtual 39, 3) := by decide +kernel
theorem dX5_meets_6 : decode cX5_meets 6 = .ok (.ireturn, 1) := by decide +kernel
def VX5_meets_0 (d : Nat) (Q : Out → MS → Prop) (x0 : Nat) (x1 : Nat) (S : MS) : Prop :=
  S.K x0 = 5 ∧ Mw hX5_meetsBoth yX5_meetsBoth d [vA x0, vA x1, vA x1] S (oI (fun r1 S1 => B01 r1 ∧ Q (.inl (some (vI r1))) S1))
theorem JX5_meets_0 {d : Nat} {S0 : MS} {Q : Out → MS → Prop} (x0 : Nat) (x1 : Nat) (S : MS) (h : VX5_meets_0 d Q x0 x1 S) : Jw FinM RX5 cX5_meets 2 (some .boolean) [] yX5_meets (d + 1) S0 S 0 [(0, vA x0), (1, vA x1)] [] Q :=
  j_aload_n 0 dX5_meets_0 rfl (j_aload_n 1 dX5_meets_1 rfl (j_aload_n 1 dX5_meets_2 rfl (j_callV (rest := []) 5 [vA x1, vA x1] k_RX5_39 ⟨w_3_33, w_3_34⟩ ⟨_, _, rfl⟩ (by decide) rfl rfl (Nat.le_of_ble_eq_true rfl) dX5_meets_3 h (kI (fun r1 S1 h => j_zret rfl dX5_meets_6 h)) (fun _ _ h => h.elim))))
theorem MX5_meets {d : Nat} {x0 : Nat} {x1 : Nat} {S : MS} {Q : Out → MS → Prop} (h : VX5_meets_0 d Q x0 x1 S) : Mw hX5_meets yX5_meets (d + 1) [vA x0, vA x1] S Q := Mw.ofJ (by decide) (Nat.le_of_ble_eq_true rfl) (JX5_meets_0 _ _ S h)
theorem dX5_meetsBoth_0 : decode cX5_meetsBoth 0 = .ok (.iconst 0, 1) := by decide +kernel
theorem dX5_meetsBoth_1 : decode cX5_meetsBoth 1 = .ok (.istore_n 3, 1) := by decide +kernel
theorem dX5_meetsBoth_2 : decode cX5_meetsBoth 2 = .ok (.iload_n 3, 1) := by decide +kernel
theorem dX5_meetsBoth_3 : decode cX5_meetsBoth 3 = .ok (.aload_n 0, 1) := by decide +kernel
theorem dX5_meetsBoth_4 : decode cX5_meetsBoth 4 = .ok (.getfield 23, 3) := by decide +kernel
theorem dX5_meetsBoth_7 : decode cX5_meetsBoth 7 = .ok (.if_icmp .ge 55, 3) := by decide +kernel
theorem dX5_meetsBoth_10 : decode cX5_meetsBoth 10 = .ok (.aload_n 0, 1) := by decide +kernel
theorem dX5_meetsBoth_11 : decode cX5_meetsBoth 11 = .ok (.getfield 19, 3) := by decide +kernel
theorem dX5_meetsBoth_14 : decode cX5_meetsBoth 14 = .ok (.iload_n 3, 1) := by decide +kernel
theorem dX5_meetsBoth_15 : decode cX5_meetsBoth 15 = .ok (.iaload, 1) := by decide +kernel
theorem dX5_meetsBoth_16 : decode cX5_meetsBoth 16 = .ok (.istore 4, 2) := by decide +kernel
theorem dX5_meetsBoth_18 : decode cX5_meetsBoth 18 = .ok (.iload 4, 2) := by decide +kernel
theorem dX5_meetsBoth_20 : decode cX5_meetsBoth 20 = .ok (.aload_n 1, 1) := by decide +kernel
theorem dX5_meetsBoth_21 : decode cX5_meetsBoth 21 = .ok (.arraylength, 1) := by decide +kernel
theorem dX5_meetsBoth_22 : decode cX5_meetsBoth 22 = .ok (.if_icmp .ge 34, 3) := by decide +kernel
theorem dX5_meetsBoth_25 : decode cX5_meetsBoth 25 = .ok (.iload 4, 2) := by decide +kernel
theorem dX5_meetsBoth_27 : decode cX5_meetsBoth 27 = .ok (.aload_n 2, 1) := by decide +kernel
theorem dX5_meetsBoth_28 : decode cX5_meetsBoth 28 = .ok (.arraylength, 1) := by decide +kernel
theorem dX5_meetsBoth_29 : decode cX5_meetsBoth 29 = .ok (.if_icmp .ge 27, 3) := by decide +kernel
theorem dX5_meetsBoth_32 : decode cX5_meetsBoth 32 = .ok (.aload_n 0, 1) := by decide +kernel
theorem dX5_meetsBoth_33 : decode cX5_meetsBoth 33 = .ok (.getfield 15, 3) := by decide +kernel
theorem dX5_meetsBoth_36 : decode cX5_meetsBoth 36 = .ok (.iload 4, 2) := by decide +kernel
theorem dX5_meetsBoth_38 : decode cX5_meetsBoth 38 = .ok (.laload, 1) := by decide +kernel
theorem dX5_meetsBoth_39 : decode cX5_meetsBoth 39 = .ok (.aload_n 1, 1) := by decide +kernel
theorem dX5_meetsBoth_40 : decode cX5_meetsBoth 40 = .ok (.iload 4, 2) := by decide +kernel
theorem dX5_meetsBoth_42 : decode cX5_meetsBoth 42 = .ok (.laload, 1) := by decide +kernel
theorem dX5_meetsBoth_43 : decode cX5_meetsBoth 43 = .ok (.land, 1) := by decide +kernel
theorem dX5_meetsBoth_44 : decode cX5_meetsBoth 44 = .ok (.aload_n 2, 1) := by decide +kernel
theorem dX5_meetsBoth_45 : decode cX5_meetsBoth 45 = .ok (.iload 4, 2) := by decide +kernel
theorem dX5_meetsBoth_47 : decode cX5_meetsBoth 47 = .ok (.laload, 1) := by decide +kernel
theorem dX5_meetsBoth_48 : decode cX5_meetsBoth 48 = .ok (.land, 1) := by decide +kernel
theorem dX5_meetsBoth_49 : decode cX5_meetsBoth 49 = .ok (.lconst 0, 1) := by decide +kernel
theorem dX5_meetsBoth_50 : decode cX5_meetsBoth 50 = .ok (.lcmp, 1) := by decide +kernel
theorem dX5_meetsBoth_51 : decode cX5_meetsBoth 51 = .ok (.ifCond .eq 5, 3) := by decide +kernel
theorem dX5_meetsBoth_54 : decode cX5_meetsBoth 54 = .ok (.iconst 1, 1) := by decide +kernel
theorem dX5_meetsBoth_55 : decode cX5_meetsBoth 55 = .ok (.ireturn, 1) := by decide +kernel
theorem dX5_meetsBoth_56 : decode cX5_meetsBoth 56 = .ok (.iinc 3 1, 3) := by decide +kernel
theorem dX5_meetsBoth_59 : decode cX5_meetsBoth 59 = .ok (.goto (-57), 3) := by decide +kernel
theorem dX5_meetsBoth_62 : decode cX5_meetsBoth 62 = .ok (.iconst 0, 1) := by decide +kernel
theorem dX5_meetsBoth_63 : decode cX5_meetsBoth 63 = .ok (.ireturn, 1) := by decide +kernel
def VX5_meetsBoth_56 (d : Nat) (c2 : Nat → Nat → Nat → Int → MS → Prop) (Q : Out → MS → Prop) (x0 : Nat) (x1 : Nat) (x2 : Nat) (x3 : Int) (S : MS) : Prop :=
  c2 x0 x1 x2 (x3 + 1) S
theorem JX5_meetsBoth_56 {d : Nat} {c2 : Nat → Nat → Nat → Int → MS → Prop} {S0 : MS} {Q : Out → MS → Prop} (hc2 : ∀ (x0 : Nat) (x1 : Nat) (x2 : Nat) (x3 : Int) (S : MS), c2 x0 x1 x2 x3 S → Jw FinM RX5 cX5_meetsBoth 5 (some .boolean) [] yX5_meetsBoth (d + 1) S0 S 2 [(0, vA x0), (1, vA x1), (2, vA x2), (3, vI x3)] [] Q) (x0 : Nat) (x1 : Nat) (x2 : Nat) (x3 : Int) (S : MS) (h : VX5_meetsBoth_56 d c2 Q x0 x1 x2 x3 S) : Jw FinM RX5 cX5_meetsBoth 5 (some .boolean) [] yX5_meetsBoth (d + 1) S0 S 56 [(0, vA x0), (1, vA x1), (2, vA x2), (3, vI x3)] [] Q :=
  j_iinc 3 (lv2 := [(3, vI (x3 + 1)), (0, vA x0), (1, vA x1), (2, vA x2)]) dX5_meetsBoth_56 rfl (by decide) rfl (j_goto (tgt := 2) dX5_meetsBoth_59 (by decide) (j_sub [1, 2, 3, 0] rfl (hc2 _ _ _ _ _ h)))
def VX5_meetsBoth_2 (d : Nat) (Q : Out → MS → Prop) : Nat → Nat → Nat → Nat → Int → MS → Prop
  | 0, _, _, _, _, _ => False
  | n + 1, x0, x1, x2, x3, S => S.K x0 = 5 ∧ ((R32 x3 ∧ R32 (S.I x0 3)) ∧ (((S.I x0 3) ≤ x3) → B01 0 ∧ Q (.inl (some (vI 0))) S) ∧ (¬ ((S.I x0 3) ≤ x3) → S.K x0 = 5 ∧ ∃ b1, S.R x0 2 = some b1 ∧ ((S.K b1 = 13 ∧ 0 ≤ x3 ∧ x3 < S.N b1) ∧ ((12 ≤ S.K x1 ∧ S.K x1 < 21) ∧ ((R32 (S.I b1 (x3).toNat) ∧ R32 ((S.N x1 : Int))) ∧ ((((S.N x1 : Int)) ≤ (S.I b1 (x3).toNat)) → VX5_meetsBoth_56 d (VX5_meetsBoth_2 d Q n) Q x0 x1 x2 x3 S) ∧ (¬ (((S.N x1 : Int)) ≤ (S.I b1 (x3).toNat)) → (12 ≤ S.K x2 ∧ S.K x2 < 21) ∧ ((R32 (S.I b1 (x3).toNat) ∧ R32 ((S.N x2 : Int))) ∧ ((((S.N x2 : Int)) ≤ (S.I b1 (x3).toNat)) → VX5_meetsBoth_56 d (VX5_meetsBoth_2 d Q n) Q x0 x1 x2 x3 S) ∧ (¬ (((S.N x2 : Int)) ≤ (S.I b1 (x3).toNat)) → S.K x0 = 5 ∧ ∃ b2, S.R x0 1 = some b2 ∧ ((S.K b2 = 14 ∧ 0 ≤ (S.I b1 (x3).toNat) ∧ (S.I b1 (x3).toNat) < S.N b2) ∧ ((S.K x1 = 14 ∧ 0 ≤ (S.I b1 (x3).toNat) ∧ (S.I b1 (x3).toNat) < S.N x1) ∧ ((S.K x2 = 14 ∧ 0 ≤ (S.I b1 (x3).toNat) ∧ (S.I b1 (x3).toNat) < S.N x2) ∧ (R32 (lCmp (((S.J b2 ((S.I b1 (x3).toNat)).toNat) &&& (S.J x1 ((S.I b1 (x3).toNat)).toNat)) &&& (S.J x2 ((S.I b1 (x3).toNat)).toNat)) (0#64)) ∧ (((lCmp (((S.J b2 ((S.I b1 (x3).toNat)).toNat) &&& (S.J x1 ((S.I b1 (x3).toNat)).toNat)) &&& (S.J x2 ((S.I b1 (x3).toNat)).toNat)) (0#64)) = 0) → VX5_meetsBoth_56 d (VX5_meetsBoth_2 d Q n) Q x0 x1 x2 x3 S) ∧ (¬ ((lCmp (((S.J b2 ((S.I b1 (x3).toNat)).toNat) &&& (S.J x1 ((S.I b1 (x3).toNat)).toNat)) &&& (S.J x2 ((S.I b1 (x3).toNat)).toNat)) (0#64)) = 0) → B01 1 ∧ Q (.inl (some (vI 1))) S)))))))))))))
theorem JX5_meetsBoth_2 {d : Nat} {S0 : MS} {Q : Out → MS → Prop} : ∀ (n : Nat) (x0 : Nat) (x1 : Nat) (x2 : Nat) (x3 : Int) (S : MS), VX5_meetsBoth_2 d Q n x0 x1 x2 x3 S → Jw FinM RX5 cX5_meetsBoth 5 (some .boolean) [] yX5_meetsBoth (d + 1) S0 S 2 [(0, vA x0), (1, vA x1), (2, vA x2), (3, vI x3)] [] Q := by
  intro n
  induction n with
  | zero => intro x0 x1 x2 x3 S h; exact h.elim
  | succ n ih =>
    intro x0 x1 x2 x3 S h
    exact j_iload_n 3 dX5_meetsBoth_2 rfl (j_aload_n 0 dX5_meetsBoth_3 rfl (j_getI 5 3 f_RX5_23 dX5_meetsBoth_4 h (fun h => j_icmp_ge (tgt := 62) dX5_meetsBoth_7 (by decide) h (fun h => j_iconst dX5_meetsBoth_62 (j_zret rfl dX5_meetsBoth_63 h)) (fun h => j_aload_n 0 dX5_meetsBoth_10 rfl (j_getR 5 2 f_RX5_19 dX5_meetsBoth_11 h (fun b1 h => j_iload_n 3 dX5_meetsBoth_14 rfl (j_iald dX5_meetsBoth_15 h (fun h => j_istore (lv2 := [(4, vI (S.I b1 (x3).toNat)), (0, vA x0), (1, vA x1), (2, vA x2), (3, vI x3)]) dX5_meetsBoth_16 (by decide) rfl (j_iload 0 dX5_meetsBoth_18 rfl (j_aload_n 2 dX5_meetsBoth_20 rfl (j_alen dX5_meetsBoth_21 h (fun h => j_icmp_ge (tgt := 56) dX5_meetsBoth_22 (by decide) h (fun h => j_sub [1, 2, 3, 4] rfl (JX5_meetsBoth_56 ih _ _ _ _ _ h)) (fun h => j_iload 0 dX5_meetsBoth_25 rfl (j_aload_n 3 dX5_meetsBoth_27 rfl (j_alen dX5_meetsBoth_28 h (fun h => j_icmp_ge (tgt := 56) dX5_meetsBoth_29 (by decide) h (fun h => j_sub [1, 2, 3, 4] rfl (JX5_meetsBoth_56 ih _ _ _ _ _ h)) (fun h => j_aload_n 1 dX5_meetsBoth_32 rfl (j_getR 5 1 f_RX5_15 dX5_meetsBoth_33 h (fun b2 h => j_iload 0 dX5_meetsBoth_36 rfl (j_lald dX5_meetsBoth_38 h (fun h => j_aload_n 2 dX5_meetsBoth_39 rfl (j_iload 0 dX5_meetsBoth_40 rfl (j_lald dX5_meetsBoth_42 h (fun h => j_land dX5_meetsBoth_43 (j_aload_n 3 dX5_meetsBoth_44 rfl (j_iload 0 dX5_meetsBoth_45 rfl (j_lald dX5_meetsBoth_47 h (fun h => j_land dX5_meetsBoth_48 (j_lconst dX5_meetsBoth_49 rfl (j_lcmp dX5_meetsBoth_50 (j_if_eq (tgt := 56) dX5_meetsBoth_51 (by decide) h (fun h => j_sub [1, 2, 3, 4] rfl (JX5_meetsBoth_56 ih _ _ _ _ _ h)) (fun h => j_iconst dX5_meetsBoth_54 (j_zret rfl dX5_meetsBoth_55 h)))))))))))))))))))))))))))))))))
def VX5_meetsBoth_0 (d : Nat) (Q : Out → MS → Prop) (x0 : Nat) (x1 : Nat) (x2 : Nat) (S : MS) : Prop :=
  ∃ m, VX5_meetsBoth_2 d Q m x0 x1 x2 0 S
theorem JX5_meetsBoth_0 {d : Nat} {S0 : MS} {Q : Out → MS → Prop} (x0 : Nat) (x1 : Nat) (x2 : Nat) (S : MS) (h : VX5_meetsBoth_0 d Q x0 x1 x2 S) : Jw FinM RX5 cX5_meetsBoth 5 (some .boolean) [] yX5_meetsBoth (d + 1) S0 S 0 [(0, vA x0), (1, vA x1), (2, vA x2)] [] Q :=
  j_iconst dX5_meetsBoth_0 (j_istore_n (lv2 := [(3, vI 0), (0, vA x0), (1, vA x1), (2, vA x2)]) dX5_meetsBoth_1 (by decide) rfl (Exists.elim h (fun m h => j_sub [1, 2, 3, 0] rfl (JX5_meetsBoth_2 m _ _ _ _ _ h))))
theorem MX5_meetsBoth {d : Nat} {x0 : Nat} {x1 : Nat} {x2 : Nat} {S : MS} {Q : Out → MS → Prop} (h : VX5_meetsBoth_0 d Q x0 x1 x2 S) : Mw hX5_meetsBoth yX5_meetsBoth (d + 1) [vA x0, vA x1, vA x2] S Q := Mw.ofJ (by decide) (Nat.le_of_ble_eq_true rfl) (JX5_meetsBoth_0 _ _ _ S h)
theorem dX5_isWithin_0 : decode cX5_isWithin 0 = .ok (.iconst 0, 1) := by decide +kernel
theorem dX5_isWithin_1 : decode cX5_isWithin 1 = .ok (.istore_n 2, 1) := by decide +kernel
theorem dX5_isWithin_2 : decode cX5_isWithin 2 = .ok (.iload_n 2, 1) := by decide +kernel
theorem dX5_isWithin_3 : decode cX5_isWithin 3 = .ok (.aload_n 0, 1) := by decide +kernel
theorem dX5_isWithin_4 : decode cX5_isWithin 4 = .ok (.getfield 23, 3) := by decide +kernel
theorem dX5_isWithin_7 : decode cX5_isWithin 7 = .ok (.if_icmp .ge 43, 3) := by decide +kernel
theorem dX5_isWithin_10 : decode cX5_isWithin 10 = .ok (.aload_n 0, 1) := by decide +kernel
theorem dX5_isWithin_11 : decode cX5_isWithin 11 = .ok (.getfield 19, 3) := by decide +kernel
theorem dX5_isWithin_14 : decode cX5_isWithin 14 = .ok (.iload_n 2, 1) := by decide +kernel
theorem dX5_isWithin_15 : decode cX5_isWithin 15 = .ok (.iaload, 1) := by decide +kernel
theorem dX5_isWithin_16 : decode cX5_isWithin 16 = .ok (.istore_n 3, 1) := by decide +kernel
theorem dX5_isWithin_17 : decode cX5_isWithin 17 = .ok (.iload_n 3, 1) := by decide +kernel
theorem dX5_isWithin_18 : decode cX5_isWithin 18 = .ok (.aload_n 1, 1) := by decide +kernel
theorem dX5_isWithin_19 : decode cX5_isWithin 19 = .ok (.arraylength, 1) := by decide +kernel
theorem dX5_isWithin_20 : decode cX5_isWithin 20 = .ok (.if_icmp .ge 22, 3) := by decide +kernel
theorem dX5_isWithin_23 : decode cX5_isWithin 23 = .ok (.aload_n 0, 1) := by decide +kernel
theorem dX5_isWithin_24 : decode cX5_isWithin 24 = .ok (.getfield 15, 3) := by decide +kernel
theorem dX5_isWithin_27 : decode cX5_isWithin 27 = .ok (.iload_n 3, 1) := by decide +kernel
theorem dX5_isWithin_28 : decode cX5_isWithin 28 = .ok (.laload, 1) := by decide +kernel
theorem dX5_isWithin_29 : decode cX5_isWithin 29 = .ok (.aload_n 1, 1) := by decide +kernel
theorem dX5_isWithin_30 : decode cX5_isWithin 30 = .ok (.iload_n 3, 1) := by decide +kernel
theorem dX5_isWithin_31 : decode cX5_isWithin 31 = .ok (.laload, 1) := by decide +kernel
theorem dX5_isWithin_32 : decode cX5_isWithin 32 = .ok (.ldc2_w 43, 3) := by decide +kernel
theorem dX5_isWithin_35 : decode cX5_isWithin 35 = .ok (.lxor, 1) := by decide +kernel
theorem dX5_isWithin_36 : decode cX5_isWithin 36 = .ok (.land, 1) := by decide +kernel
theorem dX5_isWithin_37 : decode cX5_isWithin 37 = .ok (.lconst 0, 1) := by decide +kernel
theorem dX5_isWithin_38 : decode cX5_isWithin 38 = .ok (.lcmp, 1) := by decide +kernel
theorem dX5_isWithin_39 : decode cX5_isWithin 39 = .ok (.ifCond .eq 5, 3) := by decide +kernel
theorem dX5_isWithin_42 : decode cX5_isWithin 42 = .ok (.iconst 0, 1) := by decide +kernel
theorem dX5_isWithin_43 : decode cX5_isWithin 43 = .ok (.ireturn, 1) := by decide +kernel
theorem dX5_isWithin_44 : decode cX5_isWithin 44 = .ok (.iinc 2 1, 3) := by decide +kernel
theorem dX5_isWithin_47 : decode cX5_isWithin 47 = .ok (.goto (-45), 3) := by decide +kernel
theorem dX5_isWithin_50 : decode cX5_isWithin 50 = .ok (.iconst 1, 1) := by decide +kernel
theorem dX5_isWithin_51 : decode cX5_isWithin 51 = .ok (.ireturn, 1) := by decide +kernel
def VX5_isWithin_2 (d : Nat) (Q : Out → MS → Prop) : Nat → Nat → Nat → Int → MS → Prop
  | 0, _, _, _, _ => False
  | n + 1, x0, x1, x2, S => S.K x0 = 5 ∧ ((R32 x2 ∧ R32 (S.I x0 3)) ∧ (((S.I x0 3) ≤ x2) → B01 1 ∧ Q (.inl (some (vI 1))) S) ∧ (¬ ((S.I x0 3) ≤ x2) → S.K x0 = 5 ∧ ∃ b1, S.R x0 2 = some b1 ∧ ((S.K b1 = 13 ∧ 0 ≤ x2 ∧ x2 < S.N b1) ∧ ((12 ≤ S.K x1 ∧ S.K x1 < 21) ∧ ((R32 (S.I b1 (x2).toNat) ∧ R32 ((S.N x1 : Int))) ∧ ((((S.N x1 : Int)) ≤ (S.I b1 (x2).toNat)) → B01 0 ∧ Q (.inl (some (vI 0))) S) ∧ (¬ (((S.N x1 : Int)) ≤ (S.I b1 (x2).toNat)) → S.K x0 = 5 ∧ ∃ b2, S.R x0 1 = some b2 ∧ ((S.K b2 = 14 ∧ 0 ≤ (S.I b1 (x2).toNat) ∧ (S.I b1 (x2).toNat) < S.N b2) ∧ ((S.K x1 = 14 ∧ 0 ≤ (S.I b1 (x2).toNat) ∧ (S.I b1 (x2).toNat) < S.N x1) ∧ (R32 (lCmp ((S.J b2 ((S.I b1 (x2).toNat)).toNat) &&& ((S.J x1 ((S.I b1 (x2).toNat)).toNat) ^^^ (18446744073709551615#64))) (0#64)) ∧ (((lCmp ((S.J b2 ((S.I b1 (x2).toNat)).toNat) &&& ((S.J x1 ((S.I b1 (x2).toNat)).toNat) ^^^ (18446744073709551615#64))) (0#64)) = 0) → (VX5_isWithin_2 d Q n) x0 x1 (x2 + 1) S) ∧ (¬ ((lCmp ((S.J b2 ((S.I b1 (x2).toNat)).toNat) &&& ((S.J x1 ((S.I b1 (x2).toNat)).toNat) ^^^ (18446744073709551615#64))) (0#64)) = 0) → B01 0 ∧ Q (.inl (some (vI 0))) S))))))))))
theorem JX5_isWithin_2 {d : Nat} {S0 : MS} {Q : Out → MS → Prop} : ∀ (n : Nat) (x0 : Nat) (x1 : Nat) (x2 : Int) (S : MS), VX5_isWithin_2 d Q n x0 x1 x2 S → Jw FinM RX5 cX5_isWithin 4 (some .boolean) [] yX5_isWithin (d + 1) S0 S 2 [(0, vA x0), (1, vA x1), (2, vI x2)] [] Q := by
  intro n
  induction n with
  | zero => intro x0 x1 x2 S h; exact h.elim
  | succ n ih =>
    intro x0 x1 x2 S h
    exact j_iload_n 2 dX5_isWithin_2 rfl (j_aload_n 0 dX5_isWithin_3 rfl (j_getI 5 3 f_RX5_23 dX5_isWithin_4 h (fun h => j_icmp_ge (tgt := 50) dX5_isWithin_7 (by decide) h (fun h => j_iconst dX5_isWithin_50 (j_zret rfl dX5_isWithin_51 h)) (fun h => j_aload_n 0 dX5_isWithin_10 rfl (j_getR 5 2 f_RX5_19 dX5_isWithin_11 h (fun b1 h => j_iload_n 2 dX5_isWithin_14 rfl (j_iald dX5_isWithin_15 h (fun h => j_istore_n (lv2 := [(3, vI (S.I b1 (x2).toNat)), (0, vA x0), (1, vA x1), (2, vI x2)]) dX5_isWithin_16 (by decide) rfl (j_iload_n 0 dX5_isWithin_17 rfl (j_aload_n 2 dX5_isWithin_18 rfl (j_alen dX5_isWithin_19 h (fun h => j_icmp_ge (tgt := 42) dX5_isWithin_20 (by decide) h (fun h => j_iconst dX5_isWithin_42 (j_zret rfl dX5_isWithin_43 h)) (fun h => j_aload_n 1 dX5_isWithin_23 rfl (j_getR 5 1 f_RX5_15 dX5_isWithin_24 h (fun b2 h => j_iload_n 0 dX5_isWithin_27 rfl (j_lald dX5_isWithin_28 h (fun h => j_aload_n 2 dX5_isWithin_29 rfl (j_iload_n 0 dX5_isWithin_30 rfl (j_lald dX5_isWithin_31 h (fun h => j_ldc2 dX5_isWithin_32 w_6_79 rfl (j_lxor dX5_isWithin_35 (j_land dX5_isWithin_36 (j_lconst dX5_isWithin_37 rfl (j_lcmp dX5_isWithin_38 (j_if_eq (tgt := 44) dX5_isWithin_39 (by decide) h (fun h => j_iinc 3 (lv2 := [(2, vI (x2 + 1)), (3, vI (S.I b1 (x2).toNat)), (0, vA x0), (1, vA x1)]) dX5_isWithin_44 rfl (by decide) rfl (j_goto (tgt := 2) dX5_isWithin_47 (by decide) (j_sub [2, 3, 0] rfl (ih _ _ _ _ h)))) (fun h => j_iconst dX5_isWithin_42 (j_zret rfl dX5_isWithin_43 h)))))))))))))))))))))))))))
def VX5_isWithin_0 (d : Nat) (Q : Out → MS → Prop) (x0 : Nat) (x1 : Nat) (S : MS) : Prop :=
  ∃ m, VX5_isWithin_2 d Q m x0 x1 0 S
theorem JX5_isWithin_0 {d : Nat} {S0 : MS} {Q : Out → MS → Prop} (x0 : Nat) (x1 : Nat) (S : MS) (h : VX5_isWithin_0 d Q x0 x1 S) : Jw FinM RX5 cX5_isWithin 4 (some .boolean) [] yX5_isWithin (d + 1) S0 S 0 [(0, vA x0), (1, vA x1)] [] Q :=
  j_iconst dX5_isWithin_0 (j_istore_n (lv2 := [(2, vI 0), (0, vA x0), (1, vA x1)]) dX5_isWithin_1 (by decide) rfl (Exists.elim h (fun m h => j_sub [1, 2, 0] rfl (JX5_isWithin_2 m _ _ _ _ h))))
theorem MX5_isWithin {d : Nat} {x0 : Nat} {x1 : Nat} {S : MS} {Q : Out → MS → Prop} (h : VX5_isWithin_0 d Q x0 x1 S) : Mw hX5_isWithin yX5_isWithin (d + 1) [vA x0, vA x1] S Q := Mw.ofJ (by decide) (Nat.le_of_ble_eq_true rfl) (JX5_isWithin_0 _ _ S h)
theorem dX5_has_0 : decode cX5_has 0 = .ok (.iload_n 1, 1) := by decide +kernel
theorem dX5_has_1 : decode cX5_has 1 = .ok (.bipush 6, 2) := by decide +kernel
theorem dX5_has_3 : decode cX5_has 3 = .ok (.ishr, 1) := by decide +kernel
theorem dX5_has_4 : decode cX5_has 4 = .ok (.istore_n 2, 1) := by decide +kernel
theorem dX5_has_5 : decode cX5_has 5 = .ok (.iload_n 2, 1) := by decide +kernel
theorem dX5_has_6 : decode cX5_has 6 = .ok (.ifCond .lt 34, 3) := by decide +kernel
theorem dX5_has_9 : decode cX5_has 9 = .ok (.iload_n 2, 1) := by decide +kernel
theorem dX5_has_10 : decode cX5_has 10 = .ok (.aload_n 0, 1) := by decide +kernel
theorem dX5_has_11 : decode cX5_has 11 = .ok (.getfield 15, 3) := by decide +kernel
theorem dX5_has_14 : decode cX5_has 14 = .ok (.arraylength, 1) := by decide +kernel
theorem dX5_has_15 : decode cX5_has 15 = .ok (.if_icmp .ge 25, 3) := by decide +kernel
theorem dX5_has_18 : decode cX5_has 18 = .ok (.aload_n 0, 1) := by decide +kernel
theorem dX5_has_19 : decode cX5_has 19 = .ok (.getfield 15, 3) := by decide +kernel
theorem dX5_has_22 : decode cX5_has 22 = .ok (.iload_n 2, 1) := by decide +kernel
theorem dX5_has_23 : decode cX5_has 23 = .ok (.laload, 1) := by decide +kernel
theorem dX5_has_24 : decode cX5_has 24 = .ok (.iload_n 1, 1) := by decide +kernel
theorem dX5_has_25 : decode cX5_has 25 = .ok (.bipush 63, 2) := by decide +kernel
theorem dX5_has_27 : decode cX5_has 27 = .ok (.iand, 1) := by decide +kernel
theorem dX5_has_28 : decode cX5_has 28 = .ok (.lushr, 1) := by decide +kernel
theorem dX5_has_29 : decode cX5_has 29 = .ok (.lconst 1, 1) := by decide +kernel
theorem dX5_has_30 : decode cX5_has 30 = .ok (.land, 1) := by decide +kernel
theorem dX5_has_31 : decode cX5_has 31 = .ok (.lconst 1, 1) := by decide +kernel
theorem dX5_has_32 : decode cX5_has 32 = .ok (.lcmp, 1) := by decide +kernel
theorem dX5_has_33 : decode cX5_has 33 = .ok (.ifCond .ne 7, 3) := by decide +kernel
theorem dX5_has_36 : decode cX5_has 36 = .ok (.iconst 1, 1) := by decide +kernel
theorem dX5_has_37 : decode cX5_has 37 = .ok (.goto 4, 3) := by decide +kernel
theorem dX5_has_40 : decode cX5_has 40 = .ok (.iconst 0, 1) := by decide +kernel
theorem dX5_has_41 : decode cX5_has 41 = .ok (.ireturn, 1) := by decide +kernel
def VX5_has_0 (d : Nat) (Q : Out → MS → Prop) (x0 : Nat) (x1 : Int) (S : MS) : Prop :=
  R32 (iShr x1 6) ∧ (((iShr x1 6) < 0) → B01 0 ∧ Q (.inl (some (vI 0))) S) ∧ (¬ ((iShr x1 6) < 0) → S.K x0 = 5 ∧ ∃ b1, S.R x0 1 = some b1 ∧ ((12 ≤ S.K b1 ∧ S.K b1 < 21) ∧ ((R32 (iShr x1 6) ∧ R32 ((S.N b1 : Int))) ∧ ((((S.N b1 : Int)) ≤ (iShr x1 6)) → B01 0 ∧ Q (.inl (some (vI 0))) S) ∧ (¬ (((S.N b1 : Int)) ≤ (iShr x1 6)) → S.K x0 = 5 ∧ ∃ b2, S.R x0 1 = some b2 ∧ ((S.K b2 = 14 ∧ 0 ≤ (iShr x1 6) ∧ (iShr x1 6) < S.N b2) ∧ (R32 (lCmp ((lUshr (S.J b2 ((iShr x1 6)).toNat) (iAnd x1 63)) &&& (1#64)) (1#64)) ∧ (¬ ((lCmp ((lUshr (S.J b2 ((iShr x1 6)).toNat) (iAnd x1 63)) &&& (1#64)) (1#64)) = 0) → B01 0 ∧ Q (.inl (some (vI 0))) S) ∧ (((lCmp ((lUshr (S.J b2 ((iShr x1 6)).toNat) (iAnd x1 63)) &&& (1#64)) (1#64)) = 0) → B01 1 ∧ Q (.inl (some (vI 1))) S)))))))
theorem JX5_has_0 {d : Nat} {S0 : MS} {Q : Out → MS → Prop} (x0 : Nat) (x1 : Int) (S : MS) (h : VX5_has_0 d Q x0 x1 S) : Jw FinM RX5 cX5_has 3 (some .boolean) [] yX5_has (d + 1) S0 S 0 [(0, vA x0), (1, vI x1)] [] Q :=
  j_iload_n 1 dX5_has_0 rfl (j_bipush dX5_has_1 rfl (j_ishr dX5_has_3 (j_istore_n (lv2 := [(2, vI (iShr x1 6)), (0, vA x0), (1, vI x1)]) dX5_has_4 (by decide) rfl (j_iload_n 0 dX5_has_5 rfl (j_if_lt (tgt := 40) dX5_has_6 (by decide) h (fun h => j_iconst dX5_has_40 (j_zret rfl dX5_has_41 h)) (fun h => j_iload_n 0 dX5_has_9 rfl (j_aload_n 1 dX5_has_10 rfl (j_getR 5 1 f_RX5_15 dX5_has_11 h (fun b1 h => j_alen dX5_has_14 h (fun h => j_icmp_ge (tgt := 40) dX5_has_15 (by decide) h (fun h => j_iconst dX5_has_40 (j_zret rfl dX5_has_41 h)) (fun h => j_aload_n 1 dX5_has_18 rfl (j_getR 5 1 f_RX5_15 dX5_has_19 h (fun b2 h => j_iload_n 0 dX5_has_22 rfl (j_lald dX5_has_23 h (fun h => j_iload_n 2 dX5_has_24 rfl (j_bipush dX5_has_25 rfl (j_iand dX5_has_27 (j_lushr dX5_has_28 (j_lconst dX5_has_29 rfl (j_land dX5_has_30 (j_lconst dX5_has_31 rfl (j_lcmp dX5_has_32 (j_if_ne (tgt := 40) dX5_has_33 (by decide) h (fun h => j_iconst dX5_has_40 (j_zret rfl dX5_has_41 h)) (fun h => j_iconst dX5_has_36 (j_goto (tgt := 41) dX5_has_37 (by decide) (j_zret rfl dX5_has_41 h))))))))))))))))))))))))))
theorem MX5_has {d : Nat} {x0 : Nat} {x1 : Int} {S : MS} {Q : Out → MS → Prop} (h : VX5_has_0 d Q x0 x1 S) : Mw hX5_has yX5_has (d + 1) [vA x0, vI x1] S Q := Mw.ofJ (by decide) (Nat.le_of_ble_eq_true rfl) (JX5_has_0 _ _ S h)
theorem dX5_list_0 : decode cX5_list 0 = .ok (.iconst 0, 1) := by decide +kernel
theorem dX5_list_1 : decode cX5_list 1 = .ok (.istore_n 2, 1) := by decide +kernel
theorem dX5_list_2 : decode cX5_list 2 = .ok (.iconst 0, 1) := by decide +kernel
theorem dX5_list_3 : decode cX5_list 3 = .ok (.istore_n 3, 1) := by decide +kernel
theorem dX5_list_4 : decode cX5_list 4 = .ok (.iload_n 3, 1) := by decide +kernel
theorem dX5_list_5 : decode cX5_list 5 = .ok (.aload_n 0, 1) := by decide +kernel
theorem dX5_list_6 : decode cX5_list 6 = .ok (.getfield 23, 3) := by decide +kernel
theorem dX5_list_9 : decode cX5_list 9 = .ok (.if_icmp .ge 70, 3) := by decide +kernel
theorem dX5_list_12 : decode cX5_list 12 = .ok (.iconst 0, 1) := by decide +kernel
theorem dX5_list_13 : decode cX5_list 13 = .ok (.istore 4, 2) := by decide +kernel
theorem dX5_list_15 : decode cX5_list 15 = .ok (.iload 4, 2) := by decide +kernel
theorem dX5_list_17 : decode cX5_list 17 = .ok (.bipush 64, 2) := by decide +kernel
theorem dX5_list_19 : decode cX5_list 19 = .ok (.if_icmp .ge 54, 3) := by decide +kernel
theorem dX5_list_22 : decode cX5_list 22 = .ok (.iload_n 2, 1) := by decide +kernel
theorem dX5_list_23 : decode cX5_list 23 = .ok (.aload_n 1, 1) := by decide +kernel
theorem dX5_list_24 : decode cX5_list 24 = .ok (.arraylength, 1) := by decide +kernel
theorem dX5_list_25 : decode cX5_list 25 = .ok (.if_icmp .ge 48, 3) := by decide +kernel
theorem dX5_list_28 : decode cX5_list 28 = .ok (.aload_n 0, 1) := by decide +kernel
theorem dX5_list_29 : decode cX5_list 29 = .ok (.getfield 15, 3) := by decide +kernel
theorem dX5_list_32 : decode cX5_list 32 = .ok (.aload_n 0, 1) := by decide +kernel
theorem dX5_list_33 : decode cX5_list 33 = .ok (.getfield 19, 3) := by decide +kernel
theorem dX5_list_36 : decode cX5_list 36 = .ok (.iload_n 3, 1) := by decide +kernel
theorem dX5_list_37 : decode cX5_list 37 = .ok (.iaload, 1) := by decide +kernel
theorem dX5_list_38 : decode cX5_list 38 = .ok (.laload, 1) := by decide +kernel
theorem dX5_list_39 : decode cX5_list 39 = .ok (.iload 4, 2) := by decide +kernel
theorem dX5_list_41 : decode cX5_list 41 = .ok (.lushr, 1) := by decide +kernel
theorem dX5_list_42 : decode cX5_list 42 = .ok (.lconst 1, 1) := by decide +kernel
theorem dX5_list_43 : decode cX5_list 43 = .ok (.land, 1) := by decide +kernel
theorem dX5_list_44 : decode cX5_list 44 = .ok (.lconst 1, 1) := by decide +kernel
theorem dX5_list_45 : decode cX5_list 45 = .ok (.lcmp, 1) := by decide +kernel
theorem dX5_list_46 : decode cX5_list 46 = .ok (.ifCond .ne 21, 3) := by decide +kernel
theorem dX5_list_49 : decode cX5_list 49 = .ok (.aload_n 1, 1) := by decide +kernel
theorem dX5_list_50 : decode cX5_list 50 = .ok (.iload_n 2, 1) := by decide +kernel
theorem dX5_list_51 : decode cX5_list 51 = .ok (.aload_n 0, 1) := by decide +kernel
theorem dX5_list_52 : decode cX5_list 52 = .ok (.getfield 19, 3) := by decide +kernel
theorem dX5_list_55 : decode cX5_list 55 = .ok (.iload_n 3, 1) := by decide +kernel
theorem dX5_list_56 : decode cX5_list 56 = .ok (.iaload, 1) := by decide +kernel
theorem dX5_list_57 : decode cX5_list 57 = .ok (.bipush 64, 2) := by decide +kernel
theorem dX5_list_59 : decode cX5_list 59 = .ok (.imul, 1) := by decide +kernel
theorem dX5_list_60 : decode cX5_list 60 = .ok (.iload 4, 2) := by decide +kernel
theorem dX5_list_62 : decode cX5_list 62 = .ok (.iadd, 1) := by decide +kernel
theorem dX5_list_63 : decode cX5_list 63 = .ok (.iastore, 1) := by decide +kernel
theorem dX5_list_64 : decode cX5_list 64 = .ok (.iinc 2 1, 3) := by decide +kernel
theorem dX5_list_67 : decode cX5_list 67 = .ok (.iinc 4 1, 3) := by decide +kernel
theorem dX5_list_70 : decode cX5_list 70 = .ok (.goto (-55), 3) := by decide +kernel
theorem dX5_list_73 : decode cX5_list 73 = .ok (.iinc 3 1, 3) := by decide +kernel
theorem dX5_list_76 : decode cX5_list 76 = .ok (.goto (-72), 3) := by decide +kernel
theorem dX5_list_79 : decode cX5_list 79 = .ok (.iload_n 2, 1) := by decide +kernel
theorem dX5_list_80 : decode cX5_list 80 = .ok (.ireturn, 1) := by decide +kernel
def VX5_list_67 (d : Nat) (c4 : Nat → Nat → Int → Int → MS → Prop) (c15 : Nat → Nat → Int → Int → Int → MS → Prop) (Q : Out → MS → Prop) (x0 : Nat) (x1 : Nat) (x2 : Int) (x3 : Int) (x4 : Int) (S : MS) : Prop :=
  c15 x0 x1 x2 x3 (x4 + 1) S
theorem JX5_list_67 {d : Nat} {c4 : Nat → Nat → Int → Int → MS → Prop} {c15 : Nat → Nat → Int → Int → Int → MS → Prop} {S0 : MS} {Q : Out → MS → Prop} (hc4 : ∀ (x0 : Nat) (x1 : Nat) (x2 : Int) (x3 : Int) (S : MS), c4 x0 x1 x2 x3 S → Jw FinM RX5 cX5_list 5 (some .int) [] yX5_list (d + 1) S0 S 4 [(0, vA x0), (1, vA x1), (2, vI x2), (3, vI x3)] [] Q) (hc15 : ∀ (x0 : Nat) (x1 : Nat) (x2 : Int) (x3 : Int) (x4 : Int) (S : MS), c15 x0 x1 x2 x3 x4 S → Jw FinM RX5 cX5_list 5 (some .int) [] yX5_list (d + 1) S0 S 15 [(0, vA x0), (1, vA x1), (2, vI x2), (3, vI x3), (4, vI x4)] [] Q) (x0 : Nat) (x1 : Nat) (x2 : Int) (x3 : Int) (x4 : Int) (S : MS) (h : VX5_list_67 d c4 c15 Q x0 x1 x2 x3 x4 S) : Jw FinM RX5 cX5_list 5 (some .int) [] yX5_list (d + 1) S0 S 67 [(0, vA x0), (1, vA x1), (2, vI x2), (3, vI x3), (4, vI x4)] [] Q :=
  j_iinc 4 (lv2 := [(4, vI (x4 + 1)), (0, vA x0), (1, vA x1), (2, vI x2), (3, vI x3)]) dX5_list_67 rfl (by decide) rfl (j_goto (tgt := 15) dX5_list_70 (by decide) (j_sub [1, 2, 3, 4, 0] rfl (hc15 _ _ _ _ _ _ h)))
def VX5_list_73 (d : Nat) (c4 : Nat → Nat → Int → Int → MS → Prop) (Q : Out → MS → Prop) (x0 : Nat) (x1 : Nat) (x2 : Int) (x3 : Int) (S : MS) : Prop :=
  c4 x0 x1 x2 (x3 + 1) S
theorem JX5_list_73 {d : Nat} {c4 : Nat → Nat → Int → Int → MS → Prop} {S0 : MS} {Q : Out → MS → Prop} (hc4 : ∀ (x0 : Nat) (x1 : Nat) (x2 : Int) (x3 : Int) (S : MS), c4 x0 x1 x2 x3 S → Jw FinM RX5 cX5_list 5 (some .int) [] yX5_list (d + 1) S0 S 4 [(0, vA x0), (1, vA x1), (2, vI x2), (3, vI x3)] [] Q) (x0 : Nat) (x1 : Nat) (x2 : Int) (x3 : Int) (S : MS) (h : VX5_list_73 d c4 Q x0 x1 x2 x3 S) : Jw FinM RX5 cX5_list 5 (some .int) [] yX5_list (d + 1) S0 S 73 [(0, vA x0), (1, vA x1), (2, vI x2), (3, vI x3)] [] Q :=
  j_iinc 3 (lv2 := [(3, vI (x3 + 1)), (0, vA x0), (1, vA x1), (2, vI x2)]) dX5_list_73 rfl (by decide) rfl (j_goto (tgt := 4) dX5_list_76 (by decide) (j_sub [1, 2, 3, 0] rfl (hc4 _ _ _ _ _ h)))
def VX5_list_15 (d : Nat) (c4 : Nat → Nat → Int → Int → MS → Prop) (Q : Out → MS → Prop) : Nat → Nat → Nat → Int → Int → Int → MS → Prop
  | 0, _, _, _, _, _, _ => False
  | n + 1, x0, x1, x2, x3, x4, S => (R32 x4 ∧ R32 (64 : Int)) ∧ (((64 : Int) ≤ x4) → VX5_list_73 d c4 Q x0 x1 x2 x3 S) ∧ (¬ ((64 : Int) ≤ x4) → (12 ≤ S.K x1 ∧ S.K x1 < 21) ∧ ((R32 x2 ∧ R32 ((S.N x1 : Int))) ∧ ((((S.N x1 : Int)) ≤ x2) → VX5_list_73 d c4 Q x0 x1 x2 x3 S) ∧ (¬ (((S.N x1 : Int)) ≤ x2) → S.K x0 = 5 ∧ ∃ b1, S.R x0 1 = some b1 ∧ (S.K x0 = 5 ∧ ∃ b2, S.R x0 2 = some b2 ∧ ((S.K b2 = 13 ∧ 0 ≤ x3 ∧ x3 < S.N b2) ∧ ((S.K b1 = 14 ∧ 0 ≤ (S.I b2 (x3).toNat) ∧ (S.I b2 (x3).toNat) < S.N b1) ∧ (R32 (lCmp ((lUshr (S.J b1 ((S.I b2 (x3).toNat)).toNat) x4) &&& (1#64)) (1#64)) ∧ (¬ ((lCmp ((lUshr (S.J b1 ((S.I b2 (x3).toNat)).toNat) x4) &&& (1#64)) (1#64)) = 0) → VX5_list_67 d c4 (VX5_list_15 d c4 Q n) Q x0 x1 x2 x3 x4 S) ∧ (((lCmp ((lUshr (S.J b1 ((S.I b2 (x3).toNat)).toNat) x4) &&& (1#64)) (1#64)) = 0) → S.K x0 = 5 ∧ ∃ b3, S.R x0 2 = some b3 ∧ ((S.K b3 = 13 ∧ 0 ≤ x3 ∧ x3 < S.N b3) ∧ ((S.K x1 = 13 ∧ 0 ≤ x2 ∧ x2 < S.N x1) ∧ (VX5_list_67 d c4 (VX5_list_15 d c4 Q n) Q x0 x1 (x2 + 1) x3 x4 (S.setI x1 (x2).toNat (((S.I b3 (x3).toNat) * 64) + x4)))))))))))))
theorem JX5_list_15 {d : Nat} {c4 : Nat → Nat → Int → Int → MS → Prop} {S0 : MS} {Q : Out → MS → Prop} (hc4 : ∀ (x0 : Nat) (x1 : Nat) (x2 : Int) (x3 : Int) (S : MS), c4 x0 x1 x2 x3 S → Jw FinM RX5 cX5_list 5 (some .int) [] yX5_list (d + 1) S0 S 4 [(0, vA x0), (1, vA x1), (2, vI x2), (3, vI x3)] [] Q) : ∀ (n : Nat) (x0 : Nat) (x1 : Nat) (x2 : Int) (x3 : Int) (x4 : Int) (S : MS), VX5_list_15 d c4 Q n x0 x1 x2 x3 x4 S → Jw FinM RX5 cX5_list 5 (some .int) [] yX5_list (d + 1) S0 S 15 [(0, vA x0), (1, vA x1), (2, vI x2), (3, vI x3), (4, vI x4)] [] Q := by
  intro n
  induction n with
  | zero => intro x0 x1 x2 x3 x4 S h; exact h.elim
  | succ n ih =>
    intro x0 x1 x2 x3 x4 S h
    exact j_iload 4 dX5_list_15 rfl (j_bipush dX5_list_17 rfl (j_icmp_ge (tgt := 73) dX5_list_19 (by decide) h (fun h => j_sub [0, 1, 2, 3] rfl (JX5_list_73 hc4 _ _ _ _ _ h)) (fun h => j_iload_n 2 dX5_list_22 rfl (j_aload_n 1 dX5_list_23 rfl (j_alen dX5_list_24 h (fun h => j_icmp_ge (tgt := 73) dX5_list_25 (by decide) h (fun h => j_sub [0, 1, 2, 3] rfl (JX5_list_73 hc4 _ _ _ _ _ h)) (fun h => j_aload_n 0 dX5_list_28 rfl (j_getR 5 1 f_RX5_15 dX5_list_29 h (fun b1 h => j_aload_n 0 dX5_list_32 rfl (j_getR 5 2 f_RX5_19 dX5_list_33 h (fun b2 h => j_iload_n 3 dX5_list_36 rfl (j_iald dX5_list_37 h (fun h => j_lald dX5_list_38 h (fun h => j_iload 4 dX5_list_39 rfl (j_lushr dX5_list_41 (j_lconst dX5_list_42 rfl (j_land dX5_list_43 (j_lconst dX5_list_44 rfl (j_lcmp dX5_list_45 (j_if_ne (tgt := 67) dX5_list_46 (by decide) h (fun h => JX5_list_67 hc4 ih _ _ _ _ _ _ h) (fun h => j_aload_n 1 dX5_list_49 rfl (j_iload_n 2 dX5_list_50 rfl (j_aload_n 0 dX5_list_51 rfl (j_getR 5 2 f_RX5_19 dX5_list_52 h (fun b3 h => j_iload_n 3 dX5_list_55 rfl (j_iald dX5_list_56 h (fun h => j_bipush dX5_list_57 rfl (j_imul dX5_list_59 (j_iload 4 dX5_list_60 rfl (j_iadd dX5_list_62 (j_iast dX5_list_63 h (fun h => j_iinc 2 (lv2 := [(2, vI (x2 + 1)), (0, vA x0), (1, vA x1), (3, vI x3), (4, vI x4)]) dX5_list_64 rfl (by decide) rfl (j_sub [1, 2, 0, 3, 4] rfl (JX5_list_67 hc4 ih _ _ _ _ _ _ h))))))))))))))))))))))))))))))))))
def VX5_list_4 (d : Nat) (Q : Out → MS → Prop) : Nat → Nat → Nat → Int → Int → MS → Prop
  | 0, _, _, _, _, _ => False
  | n + 1, x0, x1, x2, x3, S => S.K x0 = 5 ∧ ((R32 x3 ∧ R32 (S.I x0 3)) ∧ (((S.I x0 3) ≤ x3) → Q (.inl (some (vI x2))) S) ∧ (¬ ((S.I x0 3) ≤ x3) → ∃ m, VX5_list_15 d (VX5_list_4 d Q n) Q m x0 x1 x2 x3 0 S))
theorem JX5_list_4 {d : Nat} {S0 : MS} {Q : Out → MS → Prop} : ∀ (n : Nat) (x0 : Nat) (x1 : Nat) (x2 : Int) (x3 : Int) (S : MS), VX5_list_4 d Q n x0 x1 x2 x3 S → Jw FinM RX5 cX5_list 5 (some .int) [] yX5_list (d + 1) S0 S 4 [(0, vA x0), (1, vA x1), (2, vI x2), (3, vI x3)] [] Q := by
  intro n
  induction n with
  | zero => intro x0 x1 x2 x3 S h; exact h.elim
  | succ n ih =>
    intro x0 x1 x2 x3 S h
    exact j_iload_n 3 dX5_list_4 rfl (j_aload_n 0 dX5_list_5 rfl (j_getI 5 3 f_RX5_23 dX5_list_6 h (fun h => j_icmp_ge (tgt := 79) dX5_list_9 (by decide) h (fun h => j_iload_n 2 dX5_list_79 rfl (j_iret rfl dX5_list_80 h)) (fun h => j_iconst dX5_list_12 (j_istore (lv2 := [(4, vI 0), (0, vA x0), (1, vA x1), (2, vI x2), (3, vI x3)]) dX5_list_13 (by decide) rfl (Exists.elim h (fun m h => j_sub [1, 2, 3, 4, 0] rfl (JX5_list_15 ih m _ _ _ _ _ _ h))))))))
def VX5_list_0 (d : Nat) (Q : Out → MS → Prop) (x0 : Nat) (x1 : Nat) (S : MS) : Prop :=
  ∃ m, VX5_list_4 d Q m x0 x1 0 0 S
theorem JX5_list_0 {d : Nat} {S0 : MS} {Q : Out → MS → Prop} (x0 : Nat) (x1 : Nat) (S : MS) (h : VX5_list_0 d Q x0 x1 S) : Jw FinM RX5 cX5_list 5 (some .int) [] yX5_list (d + 1) S0 S 0 [(0, vA x0), (1, vA x1)] [] Q :=
  j_iconst dX5_list_0 (j_istore_n (lv2 := [(2, vI 0), (0, vA x0), (1, vA x1)]) dX5_list_1 (by decide) rfl (j_iconst dX5_list_2 (j_istore_n (lv2 := [(3, vI 0), (2, vI 0), (0, vA x0), (1, vA x1)]) dX5_list_3 (by decide) rfl (Exists.elim h (fun m h => j_sub [2, 3, 1, 0] rfl (JX5_list_4 m _ _ _ _ _ h))))))
theorem MX5_list {d : Nat} {x0 : Nat} {x1 : Nat} {S : MS} {Q : Out → MS → Prop} (h : VX5_list_0 d Q x0 x1 S) : Mw hX5_list yX5_list (d + 1) [vA x0, vA x1] S Q := Mw.ofJ (by decide) (Nat.le_of_ble_eq_true rfl) (JX5_list_0 _ _ S h)
theorem dX5_numberAt_0 : decode cX5_numberAt 0 = .ok (.iload_n 1, 1) := by decide +kernel
theorem dX5_numberAt_1 : decode cX5_numberAt 1 = .ok (.istore_n 2, 1) := by decide +kernel
theorem dX5_numberAt_2 : decode cX5_numberAt 2 = .ok (.iconst 0, 1) := by decide +kernel
theorem dX5_numberAt_3 : decode cX5_numberAt 3 = .ok (.istore_n 3, 1) := by decide +kernel
theorem dX5_numberAt_4 : decode cX5_numberAt 4 = .ok (.iload_n 3, 1) := by decide +kernel
theorem dX5_numberAt_5 : decode cX5_numberAt 5 = .ok (.aload_n 0, 1) := by decide +kernel
theorem dX5_numberAt_6 : decode cX5_numberAt 6 = .ok (.getfield 23, 3) := by decide +kernel
theorem dX5_numberAt_9 : decode cX5_numberAt 9 = .ok (.if_icmp .ge 61, 3) := by decide +kernel
theorem dX5_numberAt_12 : decode cX5_numberAt 12 = .ok (.iload_n 2, 1) := by decide +kernel
theorem dX5_numberAt_13 : decode cX5_numberAt 13 = .ok (.ifCond .lt 57, 3) := by decide +kernel
theorem dX5_numberAt_16 : decode cX5_numberAt 16 = .ok (.aload_n 0, 1) := by decide +kernel
theorem dX5_numberAt_17 : decode cX5_numberAt 17 = .ok (.getfield 15, 3) := by decide +kernel
theorem dX5_numberAt_20 : decode cX5_numberAt 20 = .ok (.aload_n 0, 1) := by decide +kernel
theorem dX5_numberAt_21 : decode cX5_numberAt 21 = .ok (.getfield 19, 3) := by decide +kernel
theorem dX5_numberAt_24 : decode cX5_numberAt 24 = .ok (.iload_n 3, 1) := by decide +kernel
theorem dX5_numberAt_25 : decode cX5_numberAt 25 = .ok (.iaload, 1) := by decide +kernel
theorem dX5_numberAt_26 : decode cX5_numberAt 26 = .ok (.laload, 1) := by decide +kernel
theorem dX5_numberAt_27 : decode cX5_numberAt 27 = .ok (.lstore 4, 2) := by decide +kernel
theorem dX5_numberAt_29 : decode cX5_numberAt 29 = .ok (.lload 4, 2) := by decide +kernel
theorem dX5_numberAt_31 : decode cX5_numberAt 31 = .ok (.invokestatic 26, 3) := by decide +kernel
theorem dX5_numberAt_34 : decode cX5_numberAt 34 = .ok (.istore 6, 2) := by decide +kernel
theorem dX5_numberAt_36 : decode cX5_numberAt 36 = .ok (.iload_n 2, 1) := by decide +kernel
theorem dX5_numberAt_37 : decode cX5_numberAt 37 = .ok (.iload 6, 2) := by decide +kernel
theorem dX5_numberAt_39 : decode cX5_numberAt 39 = .ok (.if_icmp .ge 20, 3) := by decide +kernel
theorem dX5_numberAt_42 : decode cX5_numberAt 42 = .ok (.aload_n 0, 1) := by decide +kernel
theorem dX5_numberAt_43 : decode cX5_numberAt 43 = .ok (.getfield 19, 3) := by decide +kernel
theorem dX5_numberAt_46 : decode cX5_numberAt 46 = .ok (.iload_n 3, 1) := by decide +kernel
theorem dX5_numberAt_47 : decode cX5_numberAt 47 = .ok (.iaload, 1) := by decide +kernel
theorem dX5_numberAt_48 : decode cX5_numberAt 48 = .ok (.bipush 64, 2) := by decide +kernel
theorem dX5_numberAt_50 : decode cX5_numberAt 50 = .ok (.imul, 1) := by decide +kernel
theorem dX5_numberAt_51 : decode cX5_numberAt 51 = .ok (.lload 4, 2) := by decide +kernel
theorem dX5_numberAt_53 : decode cX5_numberAt 53 = .ok (.iload_n 2, 1) := by decide +kernel
theorem dX5_numberAt_54 : decode cX5_numberAt 54 = .ok (.invokestatic 45, 3) := by decide +kernel
theorem dX5_numberAt_57 : decode cX5_numberAt 57 = .ok (.iadd, 1) := by decide +kernel
theorem dX5_numberAt_58 : decode cX5_numberAt 58 = .ok (.ireturn, 1) := by decide +kernel
theorem dX5_numberAt_59 : decode cX5_numberAt 59 = .ok (.iload_n 2, 1) := by decide +kernel
theorem dX5_numberAt_60 : decode cX5_numberAt 60 = .ok (.iload 6, 2) := by decide +kernel
theorem dX5_numberAt_62 : decode cX5_numberAt 62 = .ok (.isub, 1) := by decide +kernel
theorem dX5_numberAt_63 : decode cX5_numberAt 63 = .ok (.istore_n 2, 1) := by decide +kernel
theorem dX5_numberAt_64 : decode cX5_numberAt 64 = .ok (.iinc 3 1, 3) := by decide +kernel
theorem dX5_numberAt_67 : decode cX5_numberAt 67 = .ok (.goto (-63), 3) := by decide +kernel
theorem dX5_numberAt_70 : decode cX5_numberAt 70 = .ok (.iconst (-1), 1) := by decide +kernel
theorem dX5_numberAt_71 : decode cX5_numberAt 71 = .ok (.ireturn, 1) := by decide +kernel
def VX5_numberAt_4 (d : Nat) (Q : Out → MS → Prop) : Nat → Nat → Int → Int → MS → Prop
  | 0, _, _, _, _ => False
  | n + 1, x0, x2, x3, S => S.K x0 = 5 ∧ ((R32 x3 ∧ R32 (S.I x0 3)) ∧ (((S.I x0 3) ≤ x3) → Q (.inl (some (vI ((-1))))) S) ∧ (¬ ((S.I x0 3) ≤ x3) → R32 x2 ∧ ((x2 < 0) → Q (.inl (some (vI ((-1))))) S) ∧ (¬ (x2 < 0) → S.K x0 = 5 ∧ ∃ b1, S.R x0 1 = some b1 ∧ (S.K x0 = 5 ∧ ∃ b2, S.R x0 2 = some b2 ∧ ((S.K b2 = 13 ∧ 0 ≤ x3 ∧ x3 < S.N b2) ∧ ((S.K b1 = 14 ∧ 0 ≤ (S.I b2 (x3).toNat) ∧ (S.I b2 (x3).toNat) < S.N b1) ∧ (Mw hJ13_bitCount_95d88 yJ13_bitCount_95d88 d [vL (S.J b1 ((S.I b2 (x3).toNat)).toNat)] S (oI (fun r3 S3 => (R32 x2 ∧ R32 r3) ∧ ((r3 ≤ x2) → (VX5_numberAt_4 d Q n) x0 (x2 - r3) (x3 + 1) S3) ∧ (¬ (r3 ≤ x2) → S3.K x0 = 5 ∧ ∃ b4, S3.R x0 2 = some b4 ∧ ((S3.K b4 = 13 ∧ 0 ≤ x3 ∧ x3 < S3.N b4) ∧ (Mw hX5_bitAt yX5_bitAt d [vL (S.J b1 ((S.I b2 (x3).toNat)).toNat), vI x2] S3 (oI (fun r5 S5 => Q (.inl (some (vI (((S3.I b4 (x3).toNat) * 64) + r5)))) S5))))))))))))))
theorem JX5_numberAt_4 {d : Nat} {S0 : MS} {Q : Out → MS → Prop} : ∀ (n : Nat) (x0 : Nat) (x2 : Int) (x3 : Int) (S : MS), VX5_numberAt_4 d Q n x0 x2 x3 S → Jw FinM RX5 cX5_numberAt 7 (some .int) [] yX5_numberAt (d + 1) S0 S 4 [(0, vA x0), (2, vI x2), (3, vI x3)] [] Q := by
  intro n
  induction n with
  | zero => intro x0 x2 x3 S h; exact h.elim
  | succ n ih =>
    intro x0 x2 x3 S h
    exact j_iload_n 2 dX5_numberAt_4 rfl (j_aload_n 0 dX5_numberAt_5 rfl (j_getI 5 3 f_RX5_23 dX5_numberAt_6 h (fun h => j_icmp_ge (tgt := 70) dX5_numberAt_9 (by decide) h (fun h => j_iconst dX5_numberAt_70 (j_iret rfl dX5_numberAt_71 h)) (fun h => j_iload_n 1 dX5_numberAt_12 rfl (j_if_lt (tgt := 70) dX5_numberAt_13 (by decide) h (fun h => j_iconst dX5_numberAt_70 (j_iret rfl dX5_numberAt_71 h)) (fun h => j_aload_n 0 dX5_numberAt_16 rfl (j_getR 5 1 f_RX5_15 dX5_numberAt_17 h (fun b1 h => j_aload_n 0 dX5_numberAt_20 rfl (j_getR 5 2 f_RX5_19 dX5_numberAt_21 h (fun b2 h => j_iload_n 2 dX5_numberAt_24 rfl (j_iald dX5_numberAt_25 h (fun h => j_lald dX5_numberAt_26 h (fun h => j_lstore (lv2 := [(4, vL (S.J b1 ((S.I b2 (x3).toNat)).toNat)), (0, vA x0), (2, vI x2), (3, vI x3)]) dX5_numberAt_27 (by decide) rfl (j_lload 0 dX5_numberAt_29 rfl (j_callS (rest := []) [vL (S.J b1 ((S.I b2 (x3).toNat)).toNat)] k_RX5_26 w_3_14 rfl rfl (Nat.le_of_ble_eq_true rfl) dX5_numberAt_31 h (kI (fun r3 S3 h => j_istore (lv2 := [(6, vI r3), (4, vL (S.J b1 ((S.I b2 (x3).toNat)).toNat)), (0, vA x0), (2, vI x2), (3, vI x3)]) dX5_numberAt_34 (by decide) rfl (j_iload_n 3 dX5_numberAt_36 rfl (j_iload 0 dX5_numberAt_37 rfl (j_icmp_ge (tgt := 59) dX5_numberAt_39 (by decide) h (fun h => j_iload_n 3 dX5_numberAt_59 rfl (j_iload 0 dX5_numberAt_60 rfl (j_isub dX5_numberAt_62 (j_istore_n (lv2 := [(2, vI (x2 - r3)), (6, vI r3), (4, vL (S.J b1 ((S.I b2 (x3).toNat)).toNat)), (0, vA x0), (3, vI x3)]) dX5_numberAt_63 (by decide) rfl (j_iinc 4 (lv2 := [(3, vI (x3 + 1)), (2, vI (x2 - r3)), (6, vI r3), (4, vL (S.J b1 ((S.I b2 (x3).toNat)).toNat)), (0, vA x0)]) dX5_numberAt_64 rfl (by decide) rfl (j_goto (tgt := 4) dX5_numberAt_67 (by decide) (j_sub [4, 1, 0] rfl (ih _ _ _ _ h)))))))) (fun h => j_aload_n 2 dX5_numberAt_42 rfl (j_getR 5 2 f_RX5_19 dX5_numberAt_43 h (fun b4 h => j_iload_n 4 dX5_numberAt_46 rfl (j_iald dX5_numberAt_47 h (fun h => j_bipush dX5_numberAt_48 rfl (j_imul dX5_numberAt_50 (j_lload 1 dX5_numberAt_51 rfl (j_iload_n 3 dX5_numberAt_53 rfl (j_callS (rest := [vI ((S3.I b4 (x3).toNat) * 64)]) [vL (S.J b1 ((S.I b2 (x3).toNat)).toNat), vI x2] k_RX5_45 w_3_71 rfl rfl (Nat.le_of_ble_eq_true rfl) dX5_numberAt_54 h (kI (fun r5 S5 h => j_iadd dX5_numberAt_57 (j_iret rfl dX5_numberAt_58 h))) (fun _ _ h => h.elim))))))))))))))) (fun _ _ h => h.elim))))))))))))))))
def VX5_numberAt_0 (d : Nat) (Q : Out → MS → Prop) (x0 : Nat) (x1 : Int) (S : MS) : Prop :=
  ∃ m, VX5_numberAt_4 d Q m x0 x1 0 S
theorem JX5_numberAt_0 {d : Nat} {S0 : MS} {Q : Out → MS → Prop} (x0 : Nat) (x1 : Int) (S : MS) (h : VX5_numberAt_0 d Q x0 x1 S) : Jw FinM RX5 cX5_numberAt 7 (some .int) [] yX5_numberAt (d + 1) S0 S 0 [(0, vA x0), (1, vI x1)] [] Q :=
  j_iload_n 1 dX5_numberAt_0 rfl (j_istore_n (lv2 := [(2, vI x1), (0, vA x0), (1, vI x1)]) dX5_numberAt_1 (by decide) rfl (j_iconst dX5_numberAt_2 (j_istore_n (lv2 := [(3, vI 0), (2, vI x1), (0, vA x0), (1, vI x1)]) dX5_numberAt_3 (by decide) rfl (Exists.elim h (fun m h => j_sub [2, 1, 0] rfl (JX5_numberAt_4 m _ _ _ _ h))))))
theorem MX5_numberAt {d : Nat} {x0 : Nat} {x1 : Int} {S : MS} {Q : Out → MS → Prop} (h : VX5_numberAt_0 d Q x0 x1 S) : Mw hX5_numberAt yX5_numberAt (d + 1) [vA x0, vI x1] S Q := Mw.ofJ (by decide) (Nat.le_of_ble_eq_true rfl) (JX5_numberAt_0 _ _ S h)
theorem dX5_bitAt_0 : decode cX5_bitAt 0 = .ok (.lload_n 0, 1) := by decide +kernel
theorem dX5_bitAt_1 : decode cX5_bitAt 1 = .ok (.lstore_n 3, 1) := by decide +kernel
theorem dX5_bitAt_2 : decode cX5_bitAt 2 = .ok (.iconst 0, 1) := by decide +kernel
theorem dX5_bitAt_3 : decode cX5_bitAt 3 = .ok (.istore 5, 2) := by decide +kernel
theorem dX5_bitAt_5 : decode cX5_bitAt 5 = .ok (.iload 5, 2) := by decide +kernel
theorem dX5_bitAt_7 : decode cX5_bitAt 7 = .ok (.iload_n 2, 1) := by decide +kernel
theorem dX5_bitAt_8 : decode cX5_bitAt 8 = .ok (.if_icmp .ge 15, 3) := by decide +kernel
theorem dX5_bitAt_11 : decode cX5_bitAt 11 = .ok (.lload_n 3, 1) := by decide +kernel
theorem dX5_bitAt_12 : decode cX5_bitAt 12 = .ok (.lload_n 3, 1) := by decide +kernel
theorem dX5_bitAt_13 : decode cX5_bitAt 13 = .ok (.lconst 1, 1) := by decide +kernel
theorem dX5_bitAt_14 : decode cX5_bitAt 14 = .ok (.lsub, 1) := by decide +kernel
theorem dX5_bitAt_15 : decode cX5_bitAt 15 = .ok (.land, 1) := by decide +kernel
theorem dX5_bitAt_16 : decode cX5_bitAt 16 = .ok (.lstore_n 3, 1) := by decide +kernel
theorem dX5_bitAt_17 : decode cX5_bitAt 17 = .ok (.iinc 5 1, 3) := by decide +kernel
theorem dX5_bitAt_20 : decode cX5_bitAt 20 = .ok (.goto (-15), 3) := by decide +kernel
theorem dX5_bitAt_23 : decode cX5_bitAt 23 = .ok (.lload_n 3, 1) := by decide +kernel
theorem dX5_bitAt_24 : decode cX5_bitAt 24 = .ok (.lload_n 3, 1) := by decide +kernel
theorem dX5_bitAt_25 : decode cX5_bitAt 25 = .ok (.lneg, 1) := by decide +kernel
theorem dX5_bitAt_26 : decode cX5_bitAt 26 = .ok (.land, 1) := by decide +kernel
theorem dX5_bitAt_27 : decode cX5_bitAt 27 = .ok (.lconst 1, 1) := by decide +kernel
theorem dX5_bitAt_28 : decode cX5_bitAt 28 = .ok (.lsub, 1) := by decide +kernel
theorem dX5_bitAt_29 : decode cX5_bitAt 29 = .ok (.invokestatic 26, 3) := by decide +kernel
theorem dX5_bitAt_32 : decode cX5_bitAt 32 = .ok (.ireturn, 1) := by decide +kernel
def VX5_bitAt_5 (d : Nat) (Q : Out → MS → Prop) : Nat → Int → BitVec 64 → Int → MS → Prop
  | 0, _, _, _, _ => False
  | n + 1, x2, x3, x5, S => (R32 x5 ∧ R32 x2) ∧ ((x2 ≤ x5) → Mw hJ13_bitCount_95d88 yJ13_bitCount_95d88 d [vL ((x3 &&& (-x3)) - (1#64))] S (oI (fun r1 S1 => Q (.inl (some (vI r1))) S1))) ∧ (¬ (x2 ≤ x5) → (VX5_bitAt_5 d Q n) x2 (x3 &&& (x3 - (1#64))) (x5 + 1) S)
theorem JX5_bitAt_5 {d : Nat} {S0 : MS} {Q : Out → MS → Prop} : ∀ (n : Nat) (x2 : Int) (x3 : BitVec 64) (x5 : Int) (S : MS), VX5_bitAt_5 d Q n x2 x3 x5 S → Jw FinM RX5 cX5_bitAt 6 (some .int) [] yX5_bitAt (d + 1) S0 S 5 [(2, vI x2), (3, vL x3), (5, vI x5)] [] Q := by
  intro n
  induction n with
  | zero => intro x2 x3 x5 S h; exact h.elim
  | succ n ih =>
    intro x2 x3 x5 S h
    exact j_iload 2 dX5_bitAt_5 rfl (j_iload_n 0 dX5_bitAt_7 rfl (j_icmp_ge (tgt := 23) dX5_bitAt_8 (by decide) h (fun h => j_lload_n 1 dX5_bitAt_23 rfl (j_lload_n 1 dX5_bitAt_24 rfl (j_lneg dX5_bitAt_25 (j_land dX5_bitAt_26 (j_lconst dX5_bitAt_27 rfl (j_lsub dX5_bitAt_28 (j_callS (rest := []) [vL ((x3 &&& (-x3)) - (1#64))] k_RX5_26 w_3_14 rfl rfl (Nat.le_of_ble_eq_true rfl) dX5_bitAt_29 h (kI (fun r1 S1 h => j_iret rfl dX5_bitAt_32 h)) (fun _ _ h => h.elim)))))))) (fun h => j_lload_n 1 dX5_bitAt_11 rfl (j_lload_n 1 dX5_bitAt_12 rfl (j_lconst dX5_bitAt_13 rfl (j_lsub dX5_bitAt_14 (j_land dX5_bitAt_15 (j_lstore_n (lv2 := [(3, vL (x3 &&& (x3 - (1#64)))), (2, vI x2), (5, vI x5)]) dX5_bitAt_16 (by decide) rfl (j_iinc 2 (lv2 := [(5, vI (x5 + 1)), (3, vL (x3 &&& (x3 - (1#64)))), (2, vI x2)]) dX5_bitAt_17 rfl (by decide) rfl (j_goto (tgt := 5) dX5_bitAt_20 (by decide) (j_sub [2, 1, 0] rfl (ih _ _ _ _ h))))))))))))
def VX5_bitAt_0 (d : Nat) (Q : Out → MS → Prop) (x0 : BitVec 64) (x2 : Int) (S : MS) : Prop :=
  ∃ m, VX5_bitAt_5 d Q m x2 x0 0 S
theorem JX5_bitAt_0 {d : Nat} {S0 : MS} {Q : Out → MS → Prop} (x0 : BitVec 64) (x2 : Int) (S : MS) (h : VX5_bitAt_0 d Q x0 x2 S) : Jw FinM RX5 cX5_bitAt 6 (some .int) [] yX5_bitAt (d + 1) S0 S 0 [(0, vL x0), (2, vI x2)] [] Q :=
  j_lload_n 0 dX5_bitAt_0 rfl (j_lstore_n (lv2 := [(3, vL x0), (0, vL x0), (2, vI x2)]) dX5_bitAt_1 (by decide) rfl (j_iconst dX5_bitAt_2 (j_istore (lv2 := [(5, vI 0), (3, vL x0), (0, vL x0), (2, vI x2)]) dX5_bitAt_3 (by decide) rfl (Exists.elim h (fun m h => j_sub [3, 1, 0] rfl (JX5_bitAt_5 m _ _ _ _ h))))))
theorem MX5_bitAt {d : Nat} {x0 : BitVec 64} {x2 : Int} {S : MS} {Q : Out → MS → Prop} (h : VX5_bitAt_0 d Q x0 x2 S) : Mw hX5_bitAt yX5_bitAt (d + 1) [vL x0, vI x2] S Q := Mw.ofJ (by decide) (Nat.le_of_ble_eq_true rfl) (JX5_bitAt_0 _ _ S h)
