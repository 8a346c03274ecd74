theorem dX3_init_0 : decode cX3_init 0 = .ok (.aload_n 0, 1) := by decide +kernel
theorem dX3_init_1 : decode cX3_init 1 = .ok (.invokespecial 3, 3) := by decide +kernel
theorem dX3_init_4 : decode cX3_init 4 = .ok (.aload_n 0, 1) := by decide +kernel
theorem dX3_init_5 : decode cX3_init 5 = .ok (.iconst 0, 1) := by decide +kernel
theorem dX3_init_6 : decode cX3_init 6 = .ok (.putfield 9, 3) := by decide +kernel
theorem dX3_init_9 : decode cX3_init 9 = .ok (.return_, 1) := by decide +kernel
def VX3_init_0 (d : Nat) (Q : Out → MS → Prop) (x0 : Nat) (S : MS) : Prop :=
  S.K x0 = 3 ∧ (Q (.inl none) (S.setI x0 0 0))
theorem JX3_init_0 {d : Nat} {S0 : MS} {Q : Out → MS → Prop} (x0 : Nat) (S : MS) (h : VX3_init_0 d Q x0 S) : Jw FinM RX3 cX3_init 1 none [] yX3_init (d + 1) S0 S 0 [(0, vA x0)] [] Q :=
  j_aload_n 0 dX3_init_0 rfl (j_objInit w_1_209 dX3_init_1 (Nat.le_of_ble_eq_true rfl) w_1_36 w_objInit (j_aload_n 0 dX3_init_4 rfl (j_iconst dX3_init_5 (j_putI 3 0 f_RX3_9 dX3_init_6 h (fun h => j_vret rfl dX3_init_9 h)))))
theorem MX3_init {d : Nat} {x0 : Nat} {S : MS} {Q : Out → MS → Prop} (h : VX3_init_0 d Q x0 S) : Mw hX3_init yX3_init (d + 1) [vA x0] S Q := Mw.ofJ (by decide) (Nat.le_of_ble_eq_true rfl) (JX3_init_0 _ S h)
theorem dX3_leastLayings_0 : decode cX3_leastLayings 0 = .ok (.aload_n 0, 1) := by decide +kernel
theorem dX3_leastLayings_1 : decode cX3_leastLayings 1 = .ok (.iconst 0, 1) := by decide +kernel
theorem dX3_leastLayings_2 : decode cX3_leastLayings 2 = .ok (.putfield 9, 3) := by decide +kernel
theorem dX3_leastLayings_5 : decode cX3_leastLayings 5 = .ok (.aload 4, 2) := by decide +kernel
theorem dX3_leastLayings_7 : decode cX3_leastLayings 7 = .ok (.iconst 0, 1) := by decide +kernel
theorem dX3_leastLayings_8 : decode cX3_leastLayings 8 = .ok (.aaload, 1) := by decide +kernel
theorem dX3_leastLayings_9 : decode cX3_leastLayings 9 = .ok (.aload_n 3, 1) := by decide +kernel
theorem dX3_leastLayings_10 : decode cX3_leastLayings 10 = .ok (.invokevirtual 15, 3) := by decide +kernel
theorem dX3_leastLayings_13 : decode cX3_leastLayings 13 = .ok (.iconst 0, 1) := by decide +kernel
theorem dX3_leastLayings_14 : decode cX3_leastLayings 14 = .ok (.istore 5, 2) := by decide +kernel
theorem dX3_leastLayings_16 : decode cX3_leastLayings 16 = .ok (.iload 5, 2) := by decide +kernel
theorem dX3_leastLayings_18 : decode cX3_leastLayings 18 = .ok (.bipush 8, 2) := by decide +kernel
theorem dX3_leastLayings_20 : decode cX3_leastLayings 20 = .ok (.if_icmp .gt 39, 3) := by decide +kernel
theorem dX3_leastLayings_23 : decode cX3_leastLayings 23 = .ok (.aload_n 0, 1) := by decide +kernel
theorem dX3_leastLayings_24 : decode cX3_leastLayings 24 = .ok (.aload_n 1, 1) := by decide +kernel
theorem dX3_leastLayings_25 : decode cX3_leastLayings 25 = .ok (.aload_n 2, 1) := by decide +kernel
theorem dX3_leastLayings_26 : decode cX3_leastLayings 26 = .ok (.aload 4, 2) := by decide +kernel
theorem dX3_leastLayings_28 : decode cX3_leastLayings 28 = .ok (.iconst 0, 1) := by decide +kernel
theorem dX3_leastLayings_29 : decode cX3_leastLayings 29 = .ok (.iload 5, 2) := by decide +kernel
theorem dX3_leastLayings_31 : decode cX3_leastLayings 31 = .ok (.invokevirtual 21, 3) := by decide +kernel
theorem dX3_leastLayings_34 : decode cX3_leastLayings 34 = .ok (.ifCond .eq 6, 3) := by decide +kernel
theorem dX3_leastLayings_37 : decode cX3_leastLayings 37 = .ok (.iload 5, 2) := by decide +kernel
theorem dX3_leastLayings_39 : decode cX3_leastLayings 39 = .ok (.ireturn, 1) := by decide +kernel
theorem dX3_leastLayings_40 : decode cX3_leastLayings 40 = .ok (.aload_n 0, 1) := by decide +kernel
theorem dX3_leastLayings_41 : decode cX3_leastLayings 41 = .ok (.getfield 9, 3) := by decide +kernel
theorem dX3_leastLayings_44 : decode cX3_leastLayings 44 = .ok (.sipush 4000, 3) := by decide +kernel
theorem dX3_leastLayings_47 : decode cX3_leastLayings 47 = .ok (.if_icmp .le 6, 3) := by decide +kernel
theorem dX3_leastLayings_50 : decode cX3_leastLayings 50 = .ok (.bipush (-2), 2) := by decide +kernel
theorem dX3_leastLayings_52 : decode cX3_leastLayings 52 = .ok (.ireturn, 1) := by decide +kernel
theorem dX3_leastLayings_53 : decode cX3_leastLayings 53 = .ok (.iinc 5 1, 3) := by decide +kernel
theorem dX3_leastLayings_56 : decode cX3_leastLayings 56 = .ok (.goto (-40), 3) := by decide +kernel
theorem dX3_leastLayings_59 : decode cX3_leastLayings 59 = .ok (.iconst (-1), 1) := by decide +kernel
theorem dX3_leastLayings_60 : decode cX3_leastLayings 60 = .ok (.ireturn, 1) := by decide +kernel
def VX3_leastLayings_16 (d : Nat) (Q : Out → MS → Prop) : Nat → Nat → Nat → Nat → Nat → Int → MS → Prop
  | 0, _, _, _, _, _, _ => False
  | n + 1, x0, x1, x2, x4, x5, S => (R32 x5 ∧ R32 (8 : Int)) ∧ (((8 : Int) < x5) → Q (.inl (some (vI ((-1))))) S) ∧ (¬ ((8 : Int) < x5) → S.K x0 = 3 ∧ Mw hX3_canLearn yX3_canLearn d [vA x0, vA x1, vA x2, vA x4, vI 0, vI x5] S (oI (fun r1 S1 => R32 r1 ∧ ((r1 = 0) → S1.K x0 = 3 ∧ ((R32 (S1.I x0 0) ∧ R32 (4000 : Int)) ∧ (((S1.I x0 0) ≤ (4000 : Int)) → (VX3_leastLayings_16 d Q n) x0 x1 x2 x4 (x5 + 1) S1) ∧ (¬ ((S1.I x0 0) ≤ (4000 : Int)) → Q (.inl (some (vI ((-2))))) S1))) ∧ (¬ (r1 = 0) → Q (.inl (some (vI x5))) S1))))
theorem JX3_leastLayings_16 {d : Nat} {S0 : MS} {Q : Out → MS → Prop} : ∀ (n : Nat) (x0 : Nat) (x1 : Nat) (x2 : Nat) (x4 : Nat) (x5 : Int) (S : MS), VX3_leastLayings_16 d Q n x0 x1 x2 x4 x5 S → Jw FinM RX3 cX3_leastLayings 6 (some .int) [] yX3_leastLayings (d + 1) S0 S 16 [(0, vA x0), (1, vA x1), (2, vA x2), (4, vA x4), (5, vI x5)] [] Q := by
  intro n
  induction n with
  | zero => intro x0 x1 x2 x4 x5 S h; exact h.elim
  | succ n ih =>
    intro x0 x1 x2 x4 x5 S h
    exact j_iload 4 dX3_leastLayings_16 rfl (j_bipush dX3_leastLayings_18 rfl (j_icmp_gt (tgt := 59) dX3_leastLayings_20 (by decide) h (fun h => j_iconst dX3_leastLayings_59 (j_iret rfl dX3_leastLayings_60 h)) (fun h => j_aload_n 0 dX3_leastLayings_23 rfl (j_aload_n 1 dX3_leastLayings_24 rfl (j_aload_n 2 dX3_leastLayings_25 rfl (j_aload 3 dX3_leastLayings_26 rfl (j_iconst dX3_leastLayings_28 (j_iload 4 dX3_leastLayings_29 rfl (j_callV (rest := []) 3 [vA x1, vA x2, vA x4, vI 0, vI x5] k_RX3_21 ⟨w_6_65, p_3_6⟩ ⟨_, _, rfl⟩ (by decide) rfl rfl (Nat.le_of_ble_eq_true rfl) dX3_leastLayings_31 h (kI (fun r1 S1 h => j_if_eq (tgt := 40) dX3_leastLayings_34 (by decide) h (fun h => j_aload_n 0 dX3_leastLayings_40 rfl (j_getI 3 0 f_RX3_9 dX3_leastLayings_41 h (fun h => j_sipush dX3_leastLayings_44 rfl (j_icmp_le (tgt := 53) dX3_leastLayings_47 (by decide) h (fun h => j_iinc 4 (lv2 := [(5, vI (x5 + 1)), (0, vA x0), (1, vA x1), (2, vA x2), (4, vA x4)]) dX3_leastLayings_53 rfl (by decide) rfl (j_goto (tgt := 16) dX3_leastLayings_56 (by decide) (j_sub [1, 2, 3, 4, 0] rfl (ih _ _ _ _ _ _ h)))) (fun h => j_bipush dX3_leastLayings_50 rfl (j_iret rfl dX3_leastLayings_52 h)))))) (fun h => j_iload 4 dX3_leastLayings_37 rfl (j_iret rfl dX3_leastLayings_39 h)))) (fun _ _ h => h.elim))))))))))
def VX3_leastLayings_0 (d : Nat) (Q : Out → MS → Prop) (x0 : Nat) (x1 : Nat) (x2 : Nat) (x3 : Nat) (x4 : Nat) (S : MS) : Prop :=
  S.K x0 = 3 ∧ (((S.setI x0 0 0).K x4 = 19 ∧ (17 ≤ 19 ∧ 19 < 21) ∧ 0 ≤ (0 : Int) ∧ (0 : Int) < (S.setI x0 0 0).N x4) ∧ ∃ b1, (S.setI x0 0 0).R x4 ((0 : Int)).toNat = some b1 ∧ ((S.setI x0 0 0).K b1 = 5 ∧ Mw hX5_copy yX5_copy d [vA b1, vA x3] (S.setI x0 0 0) (oV (fun S2 => ∃ m, VX3_leastLayings_16 d Q m x0 x1 x2 x4 0 S2))))
theorem JX3_leastLayings_0 {d : Nat} {S0 : MS} {Q : Out → MS → Prop} (x0 : Nat) (x1 : Nat) (x2 : Nat) (x3 : Nat) (x4 : Nat) (S : MS) (h : VX3_leastLayings_0 d Q x0 x1 x2 x3 x4 S) : Jw FinM RX3 cX3_leastLayings 6 (some .int) [] yX3_leastLayings (d + 1) S0 S 0 [(0, vA x0), (1, vA x1), (2, vA x2), (3, vA x3), (4, vA x4)] [] Q :=
  j_aload_n 0 dX3_leastLayings_0 rfl (j_iconst dX3_leastLayings_1 (j_putI 3 0 f_RX3_9 dX3_leastLayings_2 h (fun h => j_aload 4 dX3_leastLayings_5 rfl (j_iconst dX3_leastLayings_7 (j_aald 19 dX3_leastLayings_8 h (fun b1 h => j_aload_n 3 dX3_leastLayings_9 rfl (j_callV (rest := []) 5 [vA x3] k_RX3_15 ⟨w_3_164, w_3_165⟩ ⟨_, _, rfl⟩ (by decide) rfl rfl (Nat.le_of_ble_eq_true rfl) dX3_leastLayings_10 h (kV (fun S2 h => j_iconst dX3_leastLayings_13 (j_istore (lv2 := [(5, vI 0), (0, vA x0), (1, vA x1), (2, vA x2), (3, vA x3), (4, vA x4)]) dX3_leastLayings_14 (by decide) rfl (Exists.elim h (fun m h => j_sub [1, 2, 3, 5, 0] rfl (JX3_leastLayings_16 m _ _ _ _ _ _ h)))))) (fun _ _ h => h.elim))))))))
theorem MX3_leastLayings {d : Nat} {x0 : Nat} {x1 : Nat} {x2 : Nat} {x3 : Nat} {x4 : Nat} {S : MS} {Q : Out → MS → Prop} (h : VX3_leastLayings_0 d Q x0 x1 x2 x3 x4 S) : Mw hX3_leastLayings yX3_leastLayings (d + 1) [vA x0, vA x1, vA x2, vA x3, vA x4] S Q := Mw.ofJ (by decide) (Nat.le_of_ble_eq_true rfl) (JX3_leastLayings_0 _ _ _ _ _ S h)
theorem dX3_canLearn_0 : decode cX3_canLearn 0 = .ok (.aload_n 3, 1) := by decide +kernel
theorem dX3_canLearn_1 : decode cX3_canLearn 1 = .ok (.iload 4, 2) := by decide +kernel
theorem dX3_canLearn_3 : decode cX3_canLearn 3 = .ok (.aaload, 1) := by decide +kernel
theorem dX3_canLearn_4 : decode cX3_canLearn 4 = .ok (.astore 6, 2) := by decide +kernel
theorem dX3_canLearn_6 : decode cX3_canLearn 6 = .ok (.aload 6, 2) := by decide +kernel
theorem dX3_canLearn_8 : decode cX3_canLearn 8 = .ok (.getfield 25, 3) := by decide +kernel
theorem dX3_canLearn_11 : decode cX3_canLearn 11 = .ok (.ifCond .eq 12, 3) := by decide +kernel
theorem dX3_canLearn_14 : decode cX3_canLearn 14 = .ok (.aload_n 1, 1) := by decide +kernel
theorem dX3_canLearn_15 : decode cX3_canLearn 15 = .ok (.aload 6, 2) := by decide +kernel
theorem dX3_canLearn_17 : decode cX3_canLearn 17 = .ok (.invokevirtual 28, 3) := by decide +kernel
theorem dX3_canLearn_20 : decode cX3_canLearn 20 = .ok (.ifCond .eq 5, 3) := by decide +kernel
theorem dX3_canLearn_23 : decode cX3_canLearn 23 = .ok (.iconst 1, 1) := by decide +kernel
theorem dX3_canLearn_24 : decode cX3_canLearn 24 = .ok (.ireturn, 1) := by decide +kernel
theorem dX3_canLearn_25 : decode cX3_canLearn 25 = .ok (.iload 5, 2) := by decide +kernel
theorem dX3_canLearn_27 : decode cX3_canLearn 27 = .ok (.ifCond .le 29, 3) := by decide +kernel
theorem dX3_canLearn_30 : decode cX3_canLearn 30 = .ok (.aload 6, 2) := by decide +kernel
theorem dX3_canLearn_32 : decode cX3_canLearn 32 = .ok (.getfield 25, 3) := by decide +kernel
theorem dX3_canLearn_35 : decode cX3_canLearn 35 = .ok (.aload_n 2, 1) := by decide +kernel
theorem dX3_canLearn_36 : decode cX3_canLearn 36 = .ok (.getfield 34, 3) := by decide +kernel
theorem dX3_canLearn_39 : decode cX3_canLearn 39 = .ok (.invokestatic 39, 3) := by decide +kernel
theorem dX3_canLearn_42 : decode cX3_canLearn 42 = .ok (.iload 5, 2) := by decide +kernel
theorem dX3_canLearn_44 : decode cX3_canLearn 44 = .ok (.if_icmp .gt 12, 3) := by decide +kernel
theorem dX3_canLearn_47 : decode cX3_canLearn 47 = .ok (.iload 4, 2) := by decide +kernel
theorem dX3_canLearn_49 : decode cX3_canLearn 49 = .ok (.iconst 1, 1) := by decide +kernel
theorem dX3_canLearn_50 : decode cX3_canLearn 50 = .ok (.iadd, 1) := by decide +kernel
theorem dX3_canLearn_51 : decode cX3_canLearn 51 = .ok (.aload_n 3, 1) := by decide +kernel
theorem dX3_canLearn_52 : decode cX3_canLearn 52 = .ok (.arraylength, 1) := by decide +kernel
theorem dX3_canLearn_53 : decode cX3_canLearn 53 = .ok (.if_icmp .lt 5, 3) := by decide +kernel
theorem dX3_canLearn_56 : decode cX3_canLearn 56 = .ok (.iconst 0, 1) := by decide +kernel
theorem dX3_canLearn_57 : decode cX3_canLearn 57 = .ok (.ireturn, 1) := by decide +kernel
theorem dX3_canLearn_58 : decode cX3_canLearn 58 = .ok (.iconst 0, 1) := by decide +kernel
theorem dX3_canLearn_59 : decode cX3_canLearn 59 = .ok (.istore 7, 2) := by decide +kernel
theorem dX3_canLearn_61 : decode cX3_canLearn 61 = .ok (.iload 7, 2) := by decide +kernel
theorem dX3_canLearn_63 : decode cX3_canLearn 63 = .ok (.aload_n 2, 1) := by decide +kernel
theorem dX3_canLearn_64 : decode cX3_canLearn 64 = .ok (.getfield 43, 3) := by decide +kernel
theorem dX3_canLearn_67 : decode cX3_canLearn 67 = .ok (.arraylength, 1) := by decide +kernel
theorem dX3_canLearn_68 : decode cX3_canLearn 68 = .ok (.if_icmp .ge 68, 3) := by decide +kernel
theorem dX3_canLearn_71 : decode cX3_canLearn 71 = .ok (.aload_n 0, 1) := by decide +kernel
theorem dX3_canLearn_72 : decode cX3_canLearn 72 = .ok (.getfield 9, 3) := by decide +kernel
theorem dX3_canLearn_75 : decode cX3_canLearn 75 = .ok (.sipush 4000, 3) := by decide +kernel
theorem dX3_canLearn_78 : decode cX3_canLearn 78 = .ok (.if_icmp .gt 58, 3) := by decide +kernel
theorem dX3_canLearn_81 : decode cX3_canLearn 81 = .ok (.aload_n 2, 1) := by decide +kernel
theorem dX3_canLearn_82 : decode cX3_canLearn 82 = .ok (.aload 6, 2) := by decide +kernel
theorem dX3_canLearn_84 : decode cX3_canLearn 84 = .ok (.iload 7, 2) := by decide +kernel
theorem dX3_canLearn_86 : decode cX3_canLearn 86 = .ok (.invokevirtual 47, 3) := by decide +kernel
theorem dX3_canLearn_89 : decode cX3_canLearn 89 = .ok (.ifCond .ne 41, 3) := by decide +kernel
theorem dX3_canLearn_92 : decode cX3_canLearn 92 = .ok (.aload_n 0, 1) := by decide +kernel
theorem dX3_canLearn_93 : decode cX3_canLearn 93 = .ok (.dup, 1) := by decide +kernel
theorem dX3_canLearn_94 : decode cX3_canLearn 94 = .ok (.getfield 9, 3) := by decide +kernel
theorem dX3_canLearn_97 : decode cX3_canLearn 97 = .ok (.iconst 1, 1) := by decide +kernel
theorem dX3_canLearn_98 : decode cX3_canLearn 98 = .ok (.iadd, 1) := by decide +kernel
theorem dX3_canLearn_99 : decode cX3_canLearn 99 = .ok (.putfield 9, 3) := by decide +kernel
theorem dX3_canLearn_102 : decode cX3_canLearn 102 = .ok (.aload_n 0, 1) := by decide +kernel
theorem dX3_canLearn_103 : decode cX3_canLearn 103 = .ok (.getfield 9, 3) := by decide +kernel
theorem dX3_canLearn_106 : decode cX3_canLearn 106 = .ok (.sipush 4000, 3) := by decide +kernel
theorem dX3_canLearn_109 : decode cX3_canLearn 109 = .ok (.if_icmp .gt 21, 3) := by decide +kernel
theorem dX3_canLearn_112 : decode cX3_canLearn 112 = .ok (.aload_n 0, 1) := by decide +kernel
theorem dX3_canLearn_113 : decode cX3_canLearn 113 = .ok (.aload_n 1, 1) := by decide +kernel
theorem dX3_canLearn_114 : decode cX3_canLearn 114 = .ok (.aload_n 2, 1) := by decide +kernel
theorem dX3_canLearn_115 : decode cX3_canLearn 115 = .ok (.aload_n 3, 1) := by decide +kernel
theorem dX3_canLearn_116 : decode cX3_canLearn 116 = .ok (.iload 4, 2) := by decide +kernel
theorem dX3_canLearn_118 : decode cX3_canLearn 118 = .ok (.iload 7, 2) := by decide +kernel
theorem dX3_canLearn_120 : decode cX3_canLearn 120 = .ok (.iload 5, 2) := by decide +kernel
theorem dX3_canLearn_122 : decode cX3_canLearn 122 = .ok (.invokevirtual 51, 3) := by decide +kernel
theorem dX3_canLearn_125 : decode cX3_canLearn 125 = .ok (.ifCond .eq 5, 3) := by decide +kernel
theorem dX3_canLearn_128 : decode cX3_canLearn 128 = .ok (.iconst 1, 1) := by decide +kernel
theorem dX3_canLearn_129 : decode cX3_canLearn 129 = .ok (.ireturn, 1) := by decide +kernel
theorem dX3_canLearn_130 : decode cX3_canLearn 130 = .ok (.iinc 7 1, 3) := by decide +kernel
theorem dX3_canLearn_133 : decode cX3_canLearn 133 = .ok (.goto (-72), 3) := by decide +kernel
theorem dX3_canLearn_136 : decode cX3_canLearn 136 = .ok (.iconst 0, 1) := by decide +kernel
theorem dX3_canLearn_137 : decode cX3_canLearn 137 = .ok (.ireturn, 1) := by decide +kernel
def VX3_canLearn_130 (d : Nat) (c61 : Nat → Nat → Nat → Nat → Int → Int → Nat → Int → MS → Prop) (Q : Out → MS → Prop) (x0 : Nat) (x1 : Nat) (x2 : Nat) (x3 : Nat) (x4 : Int) (x5 : Int) (x6 : Nat) (x7 : Int) (S : MS) : Prop :=
  c61 x0 x1 x2 x3 x4 x5 x6 (x7 + 1) S
theorem JX3_canLearn_130 {d : Nat} {c61 : Nat → Nat → Nat → Nat → Int → Int → Nat → Int → MS → Prop} {S0 : MS} {Q : Out → MS → Prop} (hc61 : ∀ (x0 : Nat) (x1 : Nat) (x2 : Nat) (x3 : Nat) (x4 : Int) (x5 : Int) (x6 : Nat) (x7 : Int) (S : MS), c61 x0 x1 x2 x3 x4 x5 x6 x7 S → Jw FinM RX3 cX3_canLearn 8 (some .boolean) [] yX3_canLearn (d + 1) S0 S 61 [(0, vA x0), (1, vA x1), (2, vA x2), (3, vA x3), (4, vI x4), (5, vI x5), (6, vA x6), (7, vI x7)] [] Q) (x0 : Nat) (x1 : Nat) (x2 : Nat) (x3 : Nat) (x4 : Int) (x5 : Int) (x6 : Nat) (x7 : Int) (S : MS) (h : VX3_canLearn_130 d c61 Q x0 x1 x2 x3 x4 x5 x6 x7 S) : Jw FinM RX3 cX3_canLearn 8 (some .boolean) [] yX3_canLearn (d + 1) S0 S 130 [(0, vA x0), (1, vA x1), (2, vA x2), (3, vA x3), (4, vI x4), (5, vI x5), (6, vA x6), (7, vI x7)] [] Q :=
  j_iinc 7 (lv2 := [(7, vI (x7 + 1)), (0, vA x0), (1, vA x1), (2, vA x2), (3, vA x3), (4, vI x4), (5, vI x5), (6, vA x6)]) dX3_canLearn_130 rfl (by decide) rfl (j_goto (tgt := 61) dX3_canLearn_133 (by decide) (j_sub [1, 2, 3, 4, 5, 6, 7, 0] rfl (hc61 _ _ _ _ _ _ _ _ _ h)))
def VX3_canLearn_61 (d : Nat) (Q : Out → MS → Prop) : Nat → Nat → Nat → Nat → Nat → Int → Int → Nat → Int → MS → Prop
  | 0, _, _, _, _, _, _, _, _, _ => False
  | n + 1, x0, x1, x2, x3, x4, x5, x6, x7, S => S.K x2 = 2 ∧ ∃ b1, S.R x2 1 = some b1 ∧ ((12 ≤ S.K b1 ∧ S.K b1 < 21) ∧ ((R32 x7 ∧ R32 ((S.N b1 : Int))) ∧ ((((S.N b1 : Int)) ≤ x7) → B01 0 ∧ Q (.inl (some (vI 0))) S) ∧ (¬ (((S.N b1 : Int)) ≤ x7) → S.K x0 = 3 ∧ ((R32 (S.I x0 0) ∧ R32 (4000 : Int)) ∧ (((4000 : Int) < (S.I x0 0)) → B01 0 ∧ Q (.inl (some (vI 0))) S) ∧ (¬ ((4000 : Int) < (S.I x0 0)) → S.K x2 = 2 ∧ Mw hX2_partsNothing yX2_partsNothing d [vA x2, vA x6, vI x7] S (oI (fun r2 S2 => R32 r2 ∧ (¬ (r2 = 0) → VX3_canLearn_130 d (VX3_canLearn_61 d Q n) Q x0 x1 x2 x3 x4 x5 x6 x7 S2) ∧ ((r2 = 0) → S2.K x0 = 3 ∧ (S2.K x0 = 3 ∧ ((S2.setI x0 0 ((S2.I x0 0) + 1)).K x0 = 3 ∧ ((R32 ((S2.setI x0 0 ((S2.I x0 0) + 1)).I x0 0) ∧ R32 (4000 : Int)) ∧ (((4000 : Int) < ((S2.setI x0 0 ((S2.I x0 0) + 1)).I x0 0)) → VX3_canLearn_130 d (VX3_canLearn_61 d Q n) Q x0 x1 x2 x3 x4 x5 x6 x7 (S2.setI x0 0 ((S2.I x0 0) + 1))) ∧ (¬ ((4000 : Int) < ((S2.setI x0 0 ((S2.I x0 0) + 1)).I x0 0)) → (S2.setI x0 0 ((S2.I x0 0) + 1)).K x0 = 3 ∧ Mw hX3_isEnough yX3_isEnough d [vA x0, vA x1, vA x2, vA x3, vI x4, vI x7, vI x5] (S2.setI x0 0 ((S2.I x0 0) + 1)) (oI (fun r3 S3 => R32 r3 ∧ ((r3 = 0) → VX3_canLearn_130 d (VX3_canLearn_61 d Q n) Q x0 x1 x2 x3 x4 x5 x6 x7 S3) ∧ (¬ (r3 = 0) → B01 1 ∧ Q (.inl (some (vI 1))) S3)))))))))))))))
theorem JX3_canLearn_61 {d : Nat} {S0 : MS} {Q : Out → MS → Prop} : ∀ (n : Nat) (x0 : Nat) (x1 : Nat) (x2 : Nat) (x3 : Nat) (x4 : Int) (x5 : Int) (x6 : Nat) (x7 : Int) (S : MS), VX3_canLearn_61 d Q n x0 x1 x2 x3 x4 x5 x6 x7 S → Jw FinM RX3 cX3_canLearn 8 (some .boolean) [] yX3_canLearn (d + 1) S0 S 61 [(0, vA x0), (1, vA x1), (2, vA x2), (3, vA x3), (4, vI x4), (5, vI x5), (6, vA x6), (7, vI x7)] [] Q := by
  intro n
  induction n with
  | zero => intro x0 x1 x2 x3 x4 x5 x6 x7 S h; exact h.elim
  | succ n ih =>
    intro x0 x1 x2 x3 x4 x5 x6 x7 S h
    exact j_iload 7 dX3_canLearn_61 rfl (j_aload_n 2 dX3_canLearn_63 rfl (j_getR 2 1 f_RX3_43 dX3_canLearn_64 h (fun b1 h => j_alen dX3_canLearn_67 h (fun h => j_icmp_ge (tgt := 136) dX3_canLearn_68 (by decide) h (fun h => j_iconst dX3_canLearn_136 (j_zret rfl dX3_canLearn_137 h)) (fun h => j_aload_n 0 dX3_canLearn_71 rfl (j_getI 3 0 f_RX3_9 dX3_canLearn_72 h (fun h => j_sipush dX3_canLearn_75 rfl (j_icmp_gt (tgt := 136) dX3_canLearn_78 (by decide) h (fun h => j_iconst dX3_canLearn_136 (j_zret rfl dX3_canLearn_137 h)) (fun h => j_aload_n 2 dX3_canLearn_81 rfl (j_aload 6 dX3_canLearn_82 rfl (j_iload 7 dX3_canLearn_84 rfl (j_callV (rest := []) 2 [vA x6, vI x7] k_RX3_47 ⟨w_6_72, w_6_73⟩ ⟨_, _, rfl⟩ (by decide) rfl rfl (Nat.le_of_ble_eq_true rfl) dX3_canLearn_86 h (kI (fun r2 S2 h => j_if_ne (tgt := 130) dX3_canLearn_89 (by decide) h (fun h => JX3_canLearn_130 ih _ _ _ _ _ _ _ _ _ h) (fun h => j_aload_n 0 dX3_canLearn_92 rfl (j_dup rfl dX3_canLearn_93 (j_getI 3 0 f_RX3_9 dX3_canLearn_94 h (fun h => j_iconst dX3_canLearn_97 (j_iadd dX3_canLearn_98 (j_putI 3 0 f_RX3_9 dX3_canLearn_99 h (fun h => j_aload_n 0 dX3_canLearn_102 rfl (j_getI 3 0 f_RX3_9 dX3_canLearn_103 h (fun h => j_sipush dX3_canLearn_106 rfl (j_icmp_gt (tgt := 130) dX3_canLearn_109 (by decide) h (fun h => JX3_canLearn_130 ih _ _ _ _ _ _ _ _ _ h) (fun h => j_aload_n 0 dX3_canLearn_112 rfl (j_aload_n 1 dX3_canLearn_113 rfl (j_aload_n 2 dX3_canLearn_114 rfl (j_aload_n 3 dX3_canLearn_115 rfl (j_iload 4 dX3_canLearn_116 rfl (j_iload 7 dX3_canLearn_118 rfl (j_iload 5 dX3_canLearn_120 rfl (j_callV (rest := []) 3 [vA x1, vA x2, vA x3, vI x4, vI x7, vI x5] k_RX3_51 ⟨w_6_82, p_3_7⟩ ⟨_, _, rfl⟩ (by decide) rfl rfl (Nat.le_of_ble_eq_true rfl) dX3_canLearn_122 h (kI (fun r3 S3 h => j_if_eq (tgt := 130) dX3_canLearn_125 (by decide) h (fun h => JX3_canLearn_130 ih _ _ _ _ _ _ _ _ _ h) (fun h => j_iconst dX3_canLearn_128 (j_zret rfl dX3_canLearn_129 h)))) (fun _ _ h => h.elim))))))))))))))))))))) (fun _ _ h => h.elim)))))))))))))
def VX3_canLearn_0 (d : Nat) (Q : Out → MS → Prop) (x0 : Nat) (x1 : Nat) (x2 : Nat) (x3 : Nat) (x4 : Int) (x5 : Int) (S : MS) : Prop :=
  (S.K x3 = 19 ∧ (17 ≤ 19 ∧ 19 < 21) ∧ 0 ≤ x4 ∧ x4 < S.N x3) ∧ ∃ b1, S.R x3 (x4).toNat = some b1 ∧ (S.K b1 = 5 ∧ (R32 (S.I b1 0) ∧ (((S.I b1 0) = 0) → B01 1 ∧ Q (.inl (some (vI 1))) S) ∧ (¬ ((S.I b1 0) = 0) → S.K x1 = 0 ∧ Mw hX0_areKnown yX0_areKnown d [vA x1, vA b1] S (oI (fun r2 S2 => R32 r2 ∧ ((r2 = 0) → R32 x5 ∧ ((x5 ≤ 0) → B01 0 ∧ Q (.inl (some (vI 0))) S2) ∧ (¬ (x5 ≤ 0) → S2.K b1 = 5 ∧ (S2.K x2 = 2 ∧ (Mw hX10_leastBound yX10_leastBound d [vI (S2.I b1 0), vI (S2.I x2 0)] S2 (oI (fun r3 S3 => (R32 r3 ∧ R32 x5) ∧ ((x5 < r3) → B01 0 ∧ Q (.inl (some (vI 0))) S3) ∧ (¬ (x5 < r3) → (12 ≤ S3.K x3 ∧ S3.K x3 < 21) ∧ ((R32 (x4 + 1) ∧ R32 ((S3.N x3 : Int))) ∧ (((x4 + 1) < ((S3.N x3 : Int))) → ∃ m, VX3_canLearn_61 d Q m x0 x1 x2 x3 x4 x5 b1 0 S3) ∧ (¬ ((x4 + 1) < ((S3.N x3 : Int))) → B01 0 ∧ Q (.inl (some (vI 0))) S3))))))))) ∧ (¬ (r2 = 0) → B01 1 ∧ Q (.inl (some (vI 1))) S2))))))
theorem JX3_canLearn_0 {d : Nat} {S0 : MS} {Q : Out → MS → Prop} (x0 : Nat) (x1 : Nat) (x2 : Nat) (x3 : Nat) (x4 : Int) (x5 : Int) (S : MS) (h : VX3_canLearn_0 d Q x0 x1 x2 x3 x4 x5 S) : Jw FinM RX3 cX3_canLearn 8 (some .boolean) [] yX3_canLearn (d + 1) S0 S 0 [(0, vA x0), (1, vA x1), (2, vA x2), (3, vA x3), (4, vI x4), (5, vI x5)] [] Q :=
  j_aload_n 3 dX3_canLearn_0 rfl (j_iload 4 dX3_canLearn_1 rfl (j_aald 19 dX3_canLearn_3 h (fun b1 h => j_astore (lv2 := [(6, vA b1), (0, vA x0), (1, vA x1), (2, vA x2), (3, vA x3), (4, vI x4), (5, vI x5)]) dX3_canLearn_4 (by decide) rfl (j_aload 0 dX3_canLearn_6 rfl (j_getI 5 0 f_RX3_25 dX3_canLearn_8 h (fun h => j_if_eq (tgt := 23) dX3_canLearn_11 (by decide) h (fun h => j_iconst dX3_canLearn_23 (j_zret rfl dX3_canLearn_24 h)) (fun h => j_aload_n 2 dX3_canLearn_14 rfl (j_aload 0 dX3_canLearn_15 rfl (j_callV (rest := []) 0 [vA b1] k_RX3_28 ⟨w_3_63, w_3_64⟩ ⟨_, _, rfl⟩ (by decide) rfl rfl (Nat.le_of_ble_eq_true rfl) dX3_canLearn_17 h (kI (fun r2 S2 h => j_if_eq (tgt := 25) dX3_canLearn_20 (by decide) h (fun h => j_iload 6 dX3_canLearn_25 rfl (j_if_le (tgt := 56) dX3_canLearn_27 (by decide) h (fun h => j_iconst dX3_canLearn_56 (j_zret rfl dX3_canLearn_57 h)) (fun h => j_aload 0 dX3_canLearn_30 rfl (j_getI 5 0 f_RX3_25 dX3_canLearn_32 h (fun h => j_aload_n 3 dX3_canLearn_35 rfl (j_getI 2 0 f_RX3_34 dX3_canLearn_36 h (fun h => j_callSN (rest := []) [vI (S2.I b1 0), vI (S2.I x2 0)] k_RX3_39 w_6_69 rfl rfl (Nat.le_of_ble_eq_true rfl) dX3_canLearn_39 h (kI (fun r3 S3 h => j_iload 6 dX3_canLearn_42 rfl (j_icmp_gt (tgt := 56) dX3_canLearn_44 (by decide) h (fun h => j_iconst dX3_canLearn_56 (j_zret rfl dX3_canLearn_57 h)) (fun h => j_iload 5 dX3_canLearn_47 rfl (j_iconst dX3_canLearn_49 (j_iadd dX3_canLearn_50 (j_aload_n 4 dX3_canLearn_51 rfl (j_alen dX3_canLearn_52 h (fun h => j_icmp_lt (tgt := 58) dX3_canLearn_53 (by decide) h (fun h => j_iconst dX3_canLearn_58 (j_istore (lv2 := [(7, vI 0), (6, vA b1), (0, vA x0), (1, vA x1), (2, vA x2), (3, vA x3), (4, vI x4), (5, vI x5)]) dX3_canLearn_59 (by decide) rfl (Exists.elim h (fun m h => j_sub [2, 3, 4, 5, 6, 7, 1, 0] rfl (JX3_canLearn_61 m _ _ _ _ _ _ _ _ _ h))))) (fun h => j_iconst dX3_canLearn_56 (j_zret rfl dX3_canLearn_57 h)))))))))))))))))) (fun h => j_iconst dX3_canLearn_23 (j_zret rfl dX3_canLearn_24 h)))) (fun _ _ h => h.elim))))))))))
theorem MX3_canLearn {d : Nat} {x0 : Nat} {x1 : Nat} {x2 : Nat} {x3 : Nat} {x4 : Int} {x5 : Int} {S : MS} {Q : Out → MS → Prop} (h : VX3_canLearn_0 d Q x0 x1 x2 x3 x4 x5 S) : Mw hX3_canLearn yX3_canLearn (d + 1) [vA x0, vA x1, vA x2, vA x3, vI x4, vI x5] S Q := Mw.ofJ (by decide) (Nat.le_of_ble_eq_true rfl) (JX3_canLearn_0 _ _ _ _ _ _ S h)
theorem dX3_isEnough_0 : decode cX3_isEnough 0 = .ok (.iconst 1, 1) := by decide +kernel
theorem dX3_isEnough_1 : decode cX3_isEnough 1 = .ok (.istore 7, 2) := by decide +kernel
theorem dX3_isEnough_3 : decode cX3_isEnough 3 = .ok (.iconst 0, 1) := by decide +kernel
theorem dX3_isEnough_4 : decode cX3_isEnough 4 = .ok (.istore 8, 2) := by decide +kernel
theorem dX3_isEnough_6 : decode cX3_isEnough 6 = .ok (.iload 8, 2) := by decide +kernel
theorem dX3_isEnough_8 : decode cX3_isEnough 8 = .ok (.aload_n 2, 1) := by decide +kernel
theorem dX3_isEnough_9 : decode cX3_isEnough 9 = .ok (.getfield 34, 3) := by decide +kernel
theorem dX3_isEnough_12 : decode cX3_isEnough 12 = .ok (.if_icmp .ge 52, 3) := by decide +kernel
theorem dX3_isEnough_15 : decode cX3_isEnough 15 = .ok (.iload 7, 2) := by decide +kernel
theorem dX3_isEnough_17 : decode cX3_isEnough 17 = .ok (.ifCond .eq 47, 3) := by decide +kernel
theorem dX3_isEnough_20 : decode cX3_isEnough 20 = .ok (.aload_n 3, 1) := by decide +kernel
theorem dX3_isEnough_21 : decode cX3_isEnough 21 = .ok (.iload 4, 2) := by decide +kernel
theorem dX3_isEnough_23 : decode cX3_isEnough 23 = .ok (.iconst 1, 1) := by decide +kernel
theorem dX3_isEnough_24 : decode cX3_isEnough 24 = .ok (.iadd, 1) := by decide +kernel
theorem dX3_isEnough_25 : decode cX3_isEnough 25 = .ok (.aaload, 1) := by decide +kernel
theorem dX3_isEnough_26 : decode cX3_isEnough 26 = .ok (.aload_n 3, 1) := by decide +kernel
theorem dX3_isEnough_27 : decode cX3_isEnough 27 = .ok (.iload 4, 2) := by decide +kernel
theorem dX3_isEnough_29 : decode cX3_isEnough 29 = .ok (.aaload, 1) := by decide +kernel
theorem dX3_isEnough_30 : decode cX3_isEnough 30 = .ok (.aload_n 2, 1) := by decide +kernel
theorem dX3_isEnough_31 : decode cX3_isEnough 31 = .ok (.iload 5, 2) := by decide +kernel
theorem dX3_isEnough_33 : decode cX3_isEnough 33 = .ok (.iload 8, 2) := by decide +kernel
theorem dX3_isEnough_35 : decode cX3_isEnough 35 = .ok (.invokevirtual 55, 3) := by decide +kernel
theorem dX3_isEnough_38 : decode cX3_isEnough 38 = .ok (.invokevirtual 59, 3) := by decide +kernel
theorem dX3_isEnough_41 : decode cX3_isEnough 41 = .ok (.aload_n 0, 1) := by decide +kernel
theorem dX3_isEnough_42 : decode cX3_isEnough 42 = .ok (.aload_n 1, 1) := by decide +kernel
theorem dX3_isEnough_43 : decode cX3_isEnough 43 = .ok (.aload_n 2, 1) := by decide +kernel
theorem dX3_isEnough_44 : decode cX3_isEnough 44 = .ok (.aload_n 3, 1) := by decide +kernel
theorem dX3_isEnough_45 : decode cX3_isEnough 45 = .ok (.iload 4, 2) := by decide +kernel
theorem dX3_isEnough_47 : decode cX3_isEnough 47 = .ok (.iconst 1, 1) := by decide +kernel
theorem dX3_isEnough_48 : decode cX3_isEnough 48 = .ok (.iadd, 1) := by decide +kernel
theorem dX3_isEnough_49 : decode cX3_isEnough 49 = .ok (.iload 6, 2) := by decide +kernel
theorem dX3_isEnough_51 : decode cX3_isEnough 51 = .ok (.iconst 1, 1) := by decide +kernel
theorem dX3_isEnough_52 : decode cX3_isEnough 52 = .ok (.isub, 1) := by decide +kernel
theorem dX3_isEnough_53 : decode cX3_isEnough 53 = .ok (.invokevirtual 21, 3) := by decide +kernel
theorem dX3_isEnough_56 : decode cX3_isEnough 56 = .ok (.istore 7, 2) := by decide +kernel
theorem dX3_isEnough_58 : decode cX3_isEnough 58 = .ok (.iinc 8 1, 3) := by decide +kernel
theorem dX3_isEnough_61 : decode cX3_isEnough 61 = .ok (.goto (-55), 3) := by decide +kernel
theorem dX3_isEnough_64 : decode cX3_isEnough 64 = .ok (.iload 7, 2) := by decide +kernel
theorem dX3_isEnough_66 : decode cX3_isEnough 66 = .ok (.ireturn, 1) := by decide +kernel
def VX3_isEnough_64 (d : Nat) (Q : Out → MS → Prop) (x7 : Int) (S : MS) : Prop :=
  B01 x7 ∧ Q (.inl (some (vI x7))) S
theorem JX3_isEnough_64 {d : Nat} {S0 : MS} {Q : Out → MS → Prop} (x7 : Int) (S : MS) (h : VX3_isEnough_64 d Q x7 S) : Jw FinM RX3 cX3_isEnough 9 (some .boolean) [] yX3_isEnough (d + 1) S0 S 64 [(7, vI x7)] [] Q :=
  j_iload 0 dX3_isEnough_64 rfl (j_zret rfl dX3_isEnough_66 h)
def VX3_isEnough_6 (d : Nat) (Q : Out → MS → Prop) : Nat → Nat → Nat → Nat → Nat → Int → Int → Int → Int → Int → MS → Prop
  | 0, _, _, _, _, _, _, _, _, _, _ => False
  | n + 1, x0, x1, x2, x3, x4, x5, x6, x7, x8, S => S.K x2 = 2 ∧ ((R32 x8 ∧ R32 (S.I x2 0)) ∧ (((S.I x2 0) ≤ x8) → VX3_isEnough_64 d Q x7 S) ∧ (¬ ((S.I x2 0) ≤ x8) → R32 x7 ∧ ((x7 = 0) → VX3_isEnough_64 d Q x7 S) ∧ (¬ (x7 = 0) → (S.K x3 = 19 ∧ (17 ≤ 19 ∧ 19 < 21) ∧ 0 ≤ (x4 + 1) ∧ (x4 + 1) < S.N x3) ∧ ∃ b1, S.R x3 ((x4 + 1)).toNat = some b1 ∧ ((S.K x3 = 19 ∧ (17 ≤ 19 ∧ 19 < 21) ∧ 0 ≤ x4 ∧ x4 < S.N x3) ∧ ∃ b2, S.R x3 (x4).toNat = some b2 ∧ (S.K x2 = 2 ∧ Mw hX2_risingAt yX2_risingAt d [vA x2, vI x5, vI x8] S (oA (fun r3 S3 => S3.K b1 = 5 ∧ Mw hX5_take yX5_take d [vA b1, vA b2, vA r3] S3 (oV (fun S4 => S4.K x0 = 3 ∧ Mw hX3_canLearn yX3_canLearn d [vA x0, vA x1, vA x2, vA x3, vI (x4 + 1), vI (x6 - 1)] S4 (oI (fun r5 S5 => (VX3_isEnough_6 d Q n) x0 x1 x2 x3 x4 x5 x6 r5 (x8 + 1) S5)))))))))))
theorem JX3_isEnough_6 {d : Nat} {S0 : MS} {Q : Out → MS → Prop} : ∀ (n : Nat) (x0 : Nat) (x1 : Nat) (x2 : Nat) (x3 : Nat) (x4 : Int) (x5 : Int) (x6 : Int) (x7 : Int) (x8 : Int) (S : MS), VX3_isEnough_6 d Q n x0 x1 x2 x3 x4 x5 x6 x7 x8 S → Jw FinM RX3 cX3_isEnough 9 (some .boolean) [] yX3_isEnough (d + 1) S0 S 6 [(0, vA x0), (1, vA x1), (2, vA x2), (3, vA x3), (4, vI x4), (5, vI x5), (6, vI x6), (7, vI x7), (8, vI x8)] [] Q := by
  intro n
  induction n with
  | zero => intro x0 x1 x2 x3 x4 x5 x6 x7 x8 S h; exact h.elim
  | succ n ih =>
    intro x0 x1 x2 x3 x4 x5 x6 x7 x8 S h
    exact j_iload 8 dX3_isEnough_6 rfl (j_aload_n 2 dX3_isEnough_8 rfl (j_getI 2 0 f_RX3_34 dX3_isEnough_9 h (fun h => j_icmp_ge (tgt := 64) dX3_isEnough_12 (by decide) h (fun h => j_sub [7] rfl (JX3_isEnough_64 _ _ h)) (fun h => j_iload 7 dX3_isEnough_15 rfl (j_if_eq (tgt := 64) dX3_isEnough_17 (by decide) h (fun h => j_sub [7] rfl (JX3_isEnough_64 _ _ h)) (fun h => j_aload_n 3 dX3_isEnough_20 rfl (j_iload 4 dX3_isEnough_21 rfl (j_iconst dX3_isEnough_23 (j_iadd dX3_isEnough_24 (j_aald 19 dX3_isEnough_25 h (fun b1 h => j_aload_n 3 dX3_isEnough_26 rfl (j_iload 4 dX3_isEnough_27 rfl (j_aald 19 dX3_isEnough_29 h (fun b2 h => j_aload_n 2 dX3_isEnough_30 rfl (j_iload 5 dX3_isEnough_31 rfl (j_iload 8 dX3_isEnough_33 rfl (j_callV (rest := [vA b2, vA b1]) 2 [vI x5, vI x8] k_RX3_55 ⟨w_2_233, w_2_234⟩ ⟨_, _, rfl⟩ (by decide) rfl rfl (Nat.le_of_ble_eq_true rfl) dX3_isEnough_35 h (kA (fun r3 S3 h => j_callV (rest := []) 5 [vA b2, vA r3] k_RX3_59 ⟨w_3_119, w_3_120⟩ ⟨_, _, rfl⟩ (by decide) rfl rfl (Nat.le_of_ble_eq_true rfl) dX3_isEnough_38 h (kV (fun S4 h => j_aload_n 0 dX3_isEnough_41 rfl (j_aload_n 1 dX3_isEnough_42 rfl (j_aload_n 2 dX3_isEnough_43 rfl (j_aload_n 3 dX3_isEnough_44 rfl (j_iload 4 dX3_isEnough_45 rfl (j_iconst dX3_isEnough_47 (j_iadd dX3_isEnough_48 (j_iload 6 dX3_isEnough_49 rfl (j_iconst dX3_isEnough_51 (j_isub dX3_isEnough_52 (j_callV (rest := []) 3 [vA x1, vA x2, vA x3, vI (x4 + 1), vI (x6 - 1)] k_RX3_21 ⟨w_6_65, p_3_6⟩ ⟨_, _, rfl⟩ (by decide) rfl rfl (Nat.le_of_ble_eq_true rfl) dX3_isEnough_53 h (kI (fun r5 S5 h => j_istore (lv2 := [(7, vI r5), (0, vA x0), (1, vA x1), (2, vA x2), (3, vA x3), (4, vI x4), (5, vI x5), (6, vI x6), (8, vI x8)]) dX3_isEnough_56 (by decide) rfl (j_iinc 8 (lv2 := [(8, vI (x8 + 1)), (7, vI r5), (0, vA x0), (1, vA x1), (2, vA x2), (3, vA x3), (4, vI x4), (5, vI x5), (6, vI x6)]) dX3_isEnough_58 rfl (by decide) rfl (j_goto (tgt := 6) dX3_isEnough_61 (by decide) (j_sub [2, 3, 4, 5, 6, 7, 8, 1, 0] rfl (ih _ _ _ _ _ _ _ _ _ _ h)))))) (fun _ _ h => h.elim))))))))))))) (fun _ _ h => h.elim))) (fun _ _ h => h.elim))))))))))))))))))
def VX3_isEnough_0 (d : Nat) (Q : Out → MS → Prop) (x0 : Nat) (x1 : Nat) (x2 : Nat) (x3 : Nat) (x4 : Int) (x5 : Int) (x6 : Int) (S : MS) : Prop :=
  ∃ m, VX3_isEnough_6 d Q m x0 x1 x2 x3 x4 x5 x6 1 0 S
theorem JX3_isEnough_0 {d : Nat} {S0 : MS} {Q : Out → MS → Prop} (x0 : Nat) (x1 : Nat) (x2 : Nat) (x3 : Nat) (x4 : Int) (x5 : Int) (x6 : Int) (S : MS) (h : VX3_isEnough_0 d Q x0 x1 x2 x3 x4 x5 x6 S) : Jw FinM RX3 cX3_isEnough 9 (some .boolean) [] yX3_isEnough (d + 1) S0 S 0 [(0, vA x0), (1, vA x1), (2, vA x2), (3, vA x3), (4, vI x4), (5, vI x5), (6, vI x6)] [] Q :=
  j_iconst dX3_isEnough_0 (j_istore (lv2 := [(7, vI 1), (0, vA x0), (1, vA x1), (2, vA x2), (3, vA x3), (4, vI x4), (5, vI x5), (6, vI x6)]) dX3_isEnough_1 (by decide) rfl (j_iconst dX3_isEnough_3 (j_istore (lv2 := [(8, vI 0), (7, vI 1), (0, vA x0), (1, vA x1), (2, vA x2), (3, vA x3), (4, vI x4), (5, vI x5), (6, vI x6)]) dX3_isEnough_4 (by decide) rfl (Exists.elim h (fun m h => j_sub [2, 3, 4, 5, 6, 7, 8, 1, 0] rfl (JX3_isEnough_6 m _ _ _ _ _ _ _ _ _ _ h))))))
theorem MX3_isEnough {d : Nat} {x0 : Nat} {x1 : Nat} {x2 : Nat} {x3 : Nat} {x4 : Int} {x5 : Int} {x6 : Int} {S : MS} {Q : Out → MS → Prop} (h : VX3_isEnough_0 d Q x0 x1 x2 x3 x4 x5 x6 S) : Mw hX3_isEnough yX3_isEnough (d + 1) [vA x0, vA x1, vA x2, vA x3, vI x4, vI x5, vI x6] S Q := Mw.ofJ (by decide) (Nat.le_of_ble_eq_true rfl) (JX3_isEnough_0 _ _ _ _ _ _ _ S h)
