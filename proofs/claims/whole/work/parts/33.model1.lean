theorem dX11_thrown_0 : decode cX11_thrown 0 = .ok (.aload_n 0, 1) := by decide +kernel
theorem dX11_thrown_1 : decode cX11_thrown 1 = .ok (.getfield 3, 3) := by decide +kernel
theorem dX11_thrown_4 : decode cX11_thrown 4 = .ok (.ireturn, 1) := by decide +kernel
def VX11_thrown_0 (d : Nat) (Q : Out → MS → Prop) (x0 : Nat) (S : MS) : Prop :=
  S.K x0 = 11 ∧ (Q (.inl (some (vI (S.I x0 0)))) S)
theorem JX11_thrown_0 {d : Nat} {S0 : MS} {Q : Out → MS → Prop} (x0 : Nat) (S : MS) (h : VX11_thrown_0 d Q x0 S) : Jw FinM RX11 cX11_thrown 1 (some .int) [] yX11_thrown (d + 1) S0 S 0 [(0, vA x0)] [] Q :=
  j_aload_n 0 dX11_thrown_0 rfl (j_getI 11 0 f_RX11_3 dX11_thrown_1 h (fun h => j_iret rfl dX11_thrown_4 h))
theorem MX11_thrown {d : Nat} {x0 : Nat} {S : MS} {Q : Out → MS → Prop} (h : VX11_thrown_0 d Q x0 S) : Mw hX11_thrown yX11_thrown (d + 1) [vA x0] S Q := Mw.ofJ (by decide) (Nat.le_of_ble_eq_true rfl) (JX11_thrown_0 _ S h)
theorem dX11_throwsIf_0 : decode cX11_throwsIf 0 = .ok (.iload_n 1, 1) := by decide +kernel
theorem dX11_throwsIf_1 : decode cX11_throwsIf 1 = .ok (.ifCond .eq 8, 3) := by decide +kernel
theorem dX11_throwsIf_4 : decode cX11_throwsIf 4 = .ok (.aload_n 0, 1) := by decide +kernel
theorem dX11_throwsIf_5 : decode cX11_throwsIf 5 = .ok (.iload_n 2, 1) := by decide +kernel
theorem dX11_throwsIf_6 : decode cX11_throwsIf 6 = .ok (.putfield 3, 3) := by decide +kernel
theorem dX11_throwsIf_9 : decode cX11_throwsIf 9 = .ok (.iload_n 1, 1) := by decide +kernel
theorem dX11_throwsIf_10 : decode cX11_throwsIf 10 = .ok (.ireturn, 1) := by decide +kernel
def VX11_throwsIf_9 (d : Nat) (Q : Out → MS → Prop) (x1 : Int) (S : MS) : Prop :=
  B01 x1 ∧ Q (.inl (some (vI x1))) S
theorem JX11_throwsIf_9 {d : Nat} {S0 : MS} {Q : Out → MS → Prop} (x1 : Int) (S : MS) (h : VX11_throwsIf_9 d Q x1 S) : Jw FinM RX11 cX11_throwsIf 3 (some .boolean) [] yX11_throwsIf (d + 1) S0 S 9 [(1, vI x1)] [] Q :=
  j_iload_n 0 dX11_throwsIf_9 rfl (j_zret rfl dX11_throwsIf_10 h)
def VX11_throwsIf_0 (d : Nat) (Q : Out → MS → Prop) (x0 : Nat) (x1 : Int) (x2 : Int) (S : MS) : Prop :=
  R32 x1 ∧ ((x1 = 0) → VX11_throwsIf_9 d Q x1 S) ∧ (¬ (x1 = 0) → S.K x0 = 11 ∧ (VX11_throwsIf_9 d Q x1 (S.setI x0 0 x2)))
theorem JX11_throwsIf_0 {d : Nat} {S0 : MS} {Q : Out → MS → Prop} (x0 : Nat) (x1 : Int) (x2 : Int) (S : MS) (h : VX11_throwsIf_0 d Q x0 x1 x2 S) : Jw FinM RX11 cX11_throwsIf 3 (some .boolean) [] yX11_throwsIf (d + 1) S0 S 0 [(0, vA x0), (1, vI x1), (2, vI x2)] [] Q :=
  j_iload_n 1 dX11_throwsIf_0 rfl (j_if_eq (tgt := 9) dX11_throwsIf_1 (by decide) h (fun h => j_sub [1] rfl (JX11_throwsIf_9 _ _ h)) (fun h => j_aload_n 0 dX11_throwsIf_4 rfl (j_iload_n 2 dX11_throwsIf_5 rfl (j_putI 11 0 f_RX11_3 dX11_throwsIf_6 h (fun h => j_sub [1] rfl (JX11_throwsIf_9 _ _ h))))))
theorem MX11_throwsIf {d : Nat} {x0 : Nat} {x1 : Int} {x2 : Int} {S : MS} {Q : Out → MS → Prop} (h : VX11_throwsIf_0 d Q x0 x1 x2 S) : Mw hX11_throwsIf yX11_throwsIf (d + 1) [vA x0, vI x1, vI x2] S Q := Mw.ofJ (by decide) (Nat.le_of_ble_eq_true rfl) (JX11_throwsIf_0 _ _ _ S h)
theorem dX11_in_0 : decode cX11_in 0 = .ok (.iload_n 0, 1) := by decide +kernel
theorem dX11_in_1 : decode cX11_in 1 = .ok (.iload_n 1, 1) := by decide +kernel
theorem dX11_in_2 : decode cX11_in 2 = .ok (.if_icmp .lt 12, 3) := by decide +kernel
theorem dX11_in_5 : decode cX11_in 5 = .ok (.iload_n 0, 1) := by decide +kernel
theorem dX11_in_6 : decode cX11_in 6 = .ok (.iload_n 2, 1) := by decide +kernel
theorem dX11_in_7 : decode cX11_in 7 = .ok (.if_icmp .gt 7, 3) := by decide +kernel
theorem dX11_in_10 : decode cX11_in 10 = .ok (.iconst 1, 1) := by decide +kernel
theorem dX11_in_11 : decode cX11_in 11 = .ok (.goto 4, 3) := by decide +kernel
theorem dX11_in_14 : decode cX11_in 14 = .ok (.iconst 0, 1) := by decide +kernel
theorem dX11_in_15 : decode cX11_in 15 = .ok (.ireturn, 1) := by decide +kernel
def VX11_in_0 (d : Nat) (Q : Out → MS → Prop) (x0 : Int) (x1 : Int) (x2 : Int) (S : MS) : Prop :=
  (R32 x0 ∧ R32 x1) ∧ ((x0 < x1) → B01 0 ∧ Q (.inl (some (vI 0))) S) ∧ (¬ (x0 < x1) → (R32 x0 ∧ R32 x2) ∧ ((x2 < x0) → B01 0 ∧ Q (.inl (some (vI 0))) S) ∧ (¬ (x2 < x0) → B01 1 ∧ Q (.inl (some (vI 1))) S))
theorem JX11_in_0 {d : Nat} {S0 : MS} {Q : Out → MS → Prop} (x0 : Int) (x1 : Int) (x2 : Int) (S : MS) (h : VX11_in_0 d Q x0 x1 x2 S) : Jw FinM RX11 cX11_in 3 (some .boolean) [] yX11_in (d + 1) S0 S 0 [(0, vI x0), (1, vI x1), (2, vI x2)] [] Q :=
  j_iload_n 0 dX11_in_0 rfl (j_iload_n 1 dX11_in_1 rfl (j_icmp_lt (tgt := 14) dX11_in_2 (by decide) h (fun h => j_iconst dX11_in_14 (j_zret rfl dX11_in_15 h)) (fun h => j_iload_n 0 dX11_in_5 rfl (j_iload_n 2 dX11_in_6 rfl (j_icmp_gt (tgt := 14) dX11_in_7 (by decide) h (fun h => j_iconst dX11_in_14 (j_zret rfl dX11_in_15 h)) (fun h => j_iconst dX11_in_10 (j_goto (tgt := 15) dX11_in_11 (by decide) (j_zret rfl dX11_in_15 h))))))))
theorem MX11_in {d : Nat} {x0 : Int} {x1 : Int} {x2 : Int} {S : MS} {Q : Out → MS → Prop} (h : VX11_in_0 d Q x0 x1 x2 S) : Mw hX11_in yX11_in (d + 1) [vI x0, vI x1, vI x2] S Q := Mw.ofJ (by decide) (Nat.le_of_ble_eq_true rfl) (JX11_in_0 _ _ _ S h)
theorem dX11_init_0 : decode cX11_init 0 = .ok (.aload_n 0, 1) := by decide +kernel
theorem dX11_init_1 : decode cX11_init 1 = .ok (.invokespecial 7, 3) := by decide +kernel
theorem dX11_init_4 : decode cX11_init 4 = .ok (.aload_n 0, 1) := by decide +kernel
theorem dX11_init_5 : decode cX11_init 5 = .ok (.bipush 71, 2) := by decide +kernel
theorem dX11_init_7 : decode cX11_init 7 = .ok (.newarray .int, 2) := by decide +kernel
theorem dX11_init_9 : decode cX11_init 9 = .ok (.putfield 13, 3) := by decide +kernel
theorem dX11_init_12 : decode cX11_init 12 = .ok (.aload_n 0, 1) := by decide +kernel
theorem dX11_init_13 : decode cX11_init 13 = .ok (.bipush 71, 2) := by decide +kernel
theorem dX11_init_15 : decode cX11_init 15 = .ok (.newarray .int, 2) := by decide +kernel
theorem dX11_init_17 : decode cX11_init 17 = .ok (.putfield 17, 3) := by decide +kernel
theorem dX11_init_20 : decode cX11_init 20 = .ok (.aload_n 0, 1) := by decide +kernel
theorem dX11_init_21 : decode cX11_init 21 = .ok (.bipush 71, 2) := by decide +kernel
theorem dX11_init_23 : decode cX11_init 23 = .ok (.newarray .int, 2) := by decide +kernel
theorem dX11_init_25 : decode cX11_init 25 = .ok (.putfield 20, 3) := by decide +kernel
theorem dX11_init_28 : decode cX11_init 28 = .ok (.aload_n 0, 1) := by decide +kernel
theorem dX11_init_29 : decode cX11_init 29 = .ok (.sipush 400, 3) := by decide +kernel
theorem dX11_init_32 : decode cX11_init 32 = .ok (.newarray .byte, 2) := by decide +kernel
theorem dX11_init_34 : decode cX11_init 34 = .ok (.putfield 23, 3) := by decide +kernel
theorem dX11_init_37 : decode cX11_init 37 = .ok (.aload_n 0, 1) := by decide +kernel
theorem dX11_init_38 : decode cX11_init 38 = .ok (.iconst (-1), 1) := by decide +kernel
theorem dX11_init_39 : decode cX11_init 39 = .ok (.putfield 27, 3) := by decide +kernel
theorem dX11_init_42 : decode cX11_init 42 = .ok (.aload_n 0, 1) := by decide +kernel
theorem dX11_init_43 : decode cX11_init 43 = .ok (.iconst 5, 1) := by decide +kernel
theorem dX11_init_44 : decode cX11_init 44 = .ok (.newarray .int, 2) := by decide +kernel
theorem dX11_init_46 : decode cX11_init 46 = .ok (.putfield 30, 3) := by decide +kernel
theorem dX11_init_49 : decode cX11_init 49 = .ok (.aload_n 0, 1) := by decide +kernel
theorem dX11_init_50 : decode cX11_init 50 = .ok (.ldc 33, 2) := by decide +kernel
theorem dX11_init_52 : decode cX11_init 52 = .ok (.newarray .byte, 2) := by decide +kernel
theorem dX11_init_54 : decode cX11_init 54 = .ok (.putfield 34, 3) := by decide +kernel
theorem dX11_init_57 : decode cX11_init 57 = .ok (.aload_n 0, 1) := by decide +kernel
theorem dX11_init_58 : decode cX11_init 58 = .ok (.iconst 4, 1) := by decide +kernel
theorem dX11_init_59 : decode cX11_init 59 = .ok (.newarray .int, 2) := by decide +kernel
theorem dX11_init_61 : decode cX11_init 61 = .ok (.putfield 37, 3) := by decide +kernel
theorem dX11_init_64 : decode cX11_init 64 = .ok (.aload_n 0, 1) := by decide +kernel
theorem dX11_init_65 : decode cX11_init 65 = .ok (.ldc 40, 2) := by decide +kernel
theorem dX11_init_67 : decode cX11_init 67 = .ok (.newarray .short, 2) := by decide +kernel
theorem dX11_init_69 : decode cX11_init 69 = .ok (.putfield 41, 3) := by decide +kernel
theorem dX11_init_72 : decode cX11_init 72 = .ok (.aload_n 0, 1) := by decide +kernel
theorem dX11_init_73 : decode cX11_init 73 = .ok (.bipush 36, 2) := by decide +kernel
theorem dX11_init_75 : decode cX11_init 75 = .ok (.newarray .int, 2) := by decide +kernel
theorem dX11_init_77 : decode cX11_init 77 = .ok (.putfield 45, 3) := by decide +kernel
theorem dX11_init_80 : decode cX11_init 80 = .ok (.aload_n 0, 1) := by decide +kernel
theorem dX11_init_81 : decode cX11_init 81 = .ok (.sipush 128, 3) := by decide +kernel
theorem dX11_init_84 : decode cX11_init 84 = .ok (.newarray .boolean, 2) := by decide +kernel
theorem dX11_init_86 : decode cX11_init 86 = .ok (.putfield 48, 3) := by decide +kernel
theorem dX11_init_89 : decode cX11_init 89 = .ok (.aload_n 0, 1) := by decide +kernel
theorem dX11_init_90 : decode cX11_init 90 = .ok (.sipush 5040, 3) := by decide +kernel
theorem dX11_init_93 : decode cX11_init 93 = .ok (.newarray .int, 2) := by decide +kernel
theorem dX11_init_95 : decode cX11_init 95 = .ok (.putfield 52, 3) := by decide +kernel
theorem dX11_init_98 : decode cX11_init 98 = .ok (.aload_n 0, 1) := by decide +kernel
theorem dX11_init_99 : decode cX11_init 99 = .ok (.bipush 16, 2) := by decide +kernel
theorem dX11_init_101 : decode cX11_init 101 = .ok (.newarray .int, 2) := by decide +kernel
theorem dX11_init_103 : decode cX11_init 103 = .ok (.putfield 55, 3) := by decide +kernel
theorem dX11_init_106 : decode cX11_init 106 = .ok (.aload_n 0, 1) := by decide +kernel
theorem dX11_init_107 : decode cX11_init 107 = .ok (.bipush 35, 2) := by decide +kernel
theorem dX11_init_109 : decode cX11_init 109 = .ok (.newarray .int, 2) := by decide +kernel
theorem dX11_init_111 : decode cX11_init 111 = .ok (.putfield 58, 3) := by decide +kernel
theorem dX11_init_114 : decode cX11_init 114 = .ok (.aload_n 0, 1) := by decide +kernel
theorem dX11_init_115 : decode cX11_init 115 = .ok (.bipush 7, 2) := by decide +kernel
theorem dX11_init_117 : decode cX11_init 117 = .ok (.newarray .int, 2) := by decide +kernel
theorem dX11_init_119 : decode cX11_init 119 = .ok (.putfield 61, 3) := by decide +kernel
theorem dX11_init_122 : decode cX11_init 122 = .ok (.aload_n 0, 1) := by decide +kernel
theorem dX11_init_123 : decode cX11_init 123 = .ok (.bipush 10, 2) := by decide +kernel
theorem dX11_init_125 : decode cX11_init 125 = .ok (.newarray .int, 2) := by decide +kernel
theorem dX11_init_127 : decode cX11_init 127 = .ok (.putfield 64, 3) := by decide +kernel
theorem dX11_init_130 : decode cX11_init 130 = .ok (.aload_n 0, 1) := by decide +kernel
theorem dX11_init_131 : decode cX11_init 131 = .ok (.bipush 10, 2) := by decide +kernel
theorem dX11_init_133 : decode cX11_init 133 = .ok (.newarray .int, 2) := by decide +kernel
theorem dX11_init_135 : decode cX11_init 135 = .ok (.putfield 67, 3) := by decide +kernel
theorem dX11_init_138 : decode cX11_init 138 = .ok (.aload_n 0, 1) := by decide +kernel
theorem dX11_init_139 : decode cX11_init 139 = .ok (.bipush 36, 2) := by decide +kernel
theorem dX11_init_141 : decode cX11_init 141 = .ok (.newarray .int, 2) := by decide +kernel
theorem dX11_init_143 : decode cX11_init 143 = .ok (.putfield 70, 3) := by decide +kernel
theorem dX11_init_146 : decode cX11_init 146 = .ok (.aload_n 0, 1) := by decide +kernel
theorem dX11_init_147 : decode cX11_init 147 = .ok (.bipush 36, 2) := by decide +kernel
theorem dX11_init_149 : decode cX11_init 149 = .ok (.newarray .int, 2) := by decide +kernel
theorem dX11_init_151 : decode cX11_init 151 = .ok (.putfield 73, 3) := by decide +kernel
theorem dX11_init_154 : decode cX11_init 154 = .ok (.aload_n 0, 1) := by decide +kernel
theorem dX11_init_155 : decode cX11_init 155 = .ok (.bipush 7, 2) := by decide +kernel
theorem dX11_init_157 : decode cX11_init 157 = .ok (.newarray .int, 2) := by decide +kernel
theorem dX11_init_159 : decode cX11_init 159 = .ok (.putfield 76, 3) := by decide +kernel
theorem dX11_init_162 : decode cX11_init 162 = .ok (.aload_n 0, 1) := by decide +kernel
theorem dX11_init_163 : decode cX11_init 163 = .ok (.getfield 13, 3) := by decide +kernel
theorem dX11_init_166 : decode cX11_init 166 = .ok (.iconst 0, 1) := by decide +kernel
theorem dX11_init_167 : decode cX11_init 167 = .ok (.iconst 3, 1) := by decide +kernel
theorem dX11_init_168 : decode cX11_init 168 = .ok (.iastore, 1) := by decide +kernel
theorem dX11_init_169 : decode cX11_init 169 = .ok (.return_, 1) := by decide +kernel
def VX11_init_0 (d : Nat) (Q : Out → MS → Prop) (x0 : Nat) (S : MS) : Prop :=
  (0 ≤ (71 : Int) ∧ (71 : Int) < 1000000) ∧ ((S.mk 13 ((71 : Int)).toNat).K x0 = 11 ∧ ((0 ≤ (71 : Int) ∧ (71 : Int) < 1000000) ∧ ((((S.mk 13 ((71 : Int)).toNat).setR x0 1 (some S.nx)).mk 13 ((71 : Int)).toNat).K x0 = 11 ∧ (∀ S1 : MS, S1 = (((S.mk 13 ((71 : Int)).toNat).setR x0 1 (some S.nx)).mk 13 ((71 : Int)).toNat).setR x0 2 (some (((S.mk 13 ((71 : Int)).toNat).setR x0 1 (some S.nx)).nx)) → (0 ≤ (71 : Int) ∧ (71 : Int) < 1000000) ∧ ((S1.mk 13 ((71 : Int)).toNat).K x0 = 11 ∧ ((0 ≤ (400 : Int) ∧ (400 : Int) < 1000000) ∧ ((((S1.mk 13 ((71 : Int)).toNat).setR x0 3 (some S1.nx)).mk 12 ((400 : Int)).toNat).K x0 = 11 ∧ (∀ S2 : MS, S2 = (((S1.mk 13 ((71 : Int)).toNat).setR x0 3 (some S1.nx)).mk 12 ((400 : Int)).toNat).setR x0 5 (some (((S1.mk 13 ((71 : Int)).toNat).setR x0 3 (some S1.nx)).nx)) → S2.K x0 = 11 ∧ ((0 ≤ (5 : Int) ∧ (5 : Int) < 1000000) ∧ (((S2.setI x0 10 ((-1))).mk 13 ((5 : Int)).toNat).K x0 = 11 ∧ (∀ S3 : MS, S3 = ((S2.setI x0 10 ((-1))).mk 13 ((5 : Int)).toNat).setR x0 11 (some ((S2.setI x0 10 ((-1))).nx)) → (0 ≤ (35280 : Int) ∧ (35280 : Int) < 1000000) ∧ ((S3.mk 12 ((35280 : Int)).toNat).K x0 = 11 ∧ ((0 ≤ (4 : Int) ∧ (4 : Int) < 1000000) ∧ ((((S3.mk 12 ((35280 : Int)).toNat).setR x0 12 (some S3.nx)).mk 13 ((4 : Int)).toNat).K x0 = 11 ∧ (∀ S4 : MS, S4 = (((S3.mk 12 ((35280 : Int)).toNat).setR x0 12 (some S3.nx)).mk 13 ((4 : Int)).toNat).setR x0 15 (some (((S3.mk 12 ((35280 : Int)).toNat).setR x0 12 (some S3.nx)).nx)) → (0 ≤ (181440 : Int) ∧ (181440 : Int) < 1000000) ∧ ((S4.mk 15 ((181440 : Int)).toNat).K x0 = 11 ∧ ((0 ≤ (36 : Int) ∧ (36 : Int) < 1000000) ∧ ((((S4.mk 15 ((181440 : Int)).toNat).setR x0 16 (some S4.nx)).mk 13 ((36 : Int)).toNat).K x0 = 11 ∧ (∀ S5 : MS, S5 = (((S4.mk 15 ((181440 : Int)).toNat).setR x0 16 (some S4.nx)).mk 13 ((36 : Int)).toNat).setR x0 17 (some (((S4.mk 15 ((181440 : Int)).toNat).setR x0 16 (some S4.nx)).nx)) → (0 ≤ (128 : Int) ∧ (128 : Int) < 1000000) ∧ ((S5.mk 16 ((128 : Int)).toNat).K x0 = 11 ∧ ((0 ≤ (5040 : Int) ∧ (5040 : Int) < 1000000) ∧ ((((S5.mk 16 ((128 : Int)).toNat).setR x0 18 (some S5.nx)).mk 13 ((5040 : Int)).toNat).K x0 = 11 ∧ (∀ S6 : MS, S6 = (((S5.mk 16 ((128 : Int)).toNat).setR x0 18 (some S5.nx)).mk 13 ((5040 : Int)).toNat).setR x0 19 (some (((S5.mk 16 ((128 : Int)).toNat).setR x0 18 (some S5.nx)).nx)) → (0 ≤ (16 : Int) ∧ (16 : Int) < 1000000) ∧ ((S6.mk 13 ((16 : Int)).toNat).K x0 = 11 ∧ ((0 ≤ (35 : Int) ∧ (35 : Int) < 1000000) ∧ ((((S6.mk 13 ((16 : Int)).toNat).setR x0 21 (some S6.nx)).mk 13 ((35 : Int)).toNat).K x0 = 11 ∧ (∀ S7 : MS, S7 = (((S6.mk 13 ((16 : Int)).toNat).setR x0 21 (some S6.nx)).mk 13 ((35 : Int)).toNat).setR x0 22 (some (((S6.mk 13 ((16 : Int)).toNat).setR x0 21 (some S6.nx)).nx)) → (0 ≤ (7 : Int) ∧ (7 : Int) < 1000000) ∧ ((S7.mk 13 ((7 : Int)).toNat).K x0 = 11 ∧ ((0 ≤ (10 : Int) ∧ (10 : Int) < 1000000) ∧ ((((S7.mk 13 ((7 : Int)).toNat).setR x0 24 (some S7.nx)).mk 13 ((10 : Int)).toNat).K x0 = 11 ∧ (∀ S8 : MS, S8 = (((S7.mk 13 ((7 : Int)).toNat).setR x0 24 (some S7.nx)).mk 13 ((10 : Int)).toNat).setR x0 28 (some (((S7.mk 13 ((7 : Int)).toNat).setR x0 24 (some S7.nx)).nx)) → (0 ≤ (10 : Int) ∧ (10 : Int) < 1000000) ∧ ((S8.mk 13 ((10 : Int)).toNat).K x0 = 11 ∧ ((0 ≤ (36 : Int) ∧ (36 : Int) < 1000000) ∧ ((((S8.mk 13 ((10 : Int)).toNat).setR x0 29 (some S8.nx)).mk 13 ((36 : Int)).toNat).K x0 = 11 ∧ (∀ S9 : MS, S9 = (((S8.mk 13 ((10 : Int)).toNat).setR x0 29 (some S8.nx)).mk 13 ((36 : Int)).toNat).setR x0 31 (some (((S8.mk 13 ((10 : Int)).toNat).setR x0 29 (some S8.nx)).nx)) → (0 ≤ (36 : Int) ∧ (36 : Int) < 1000000) ∧ ((S9.mk 13 ((36 : Int)).toNat).K x0 = 11 ∧ ((0 ≤ (7 : Int) ∧ (7 : Int) < 1000000) ∧ ((((S9.mk 13 ((36 : Int)).toNat).setR x0 32 (some S9.nx)).mk 13 ((7 : Int)).toNat).K x0 = 11 ∧ (∀ S10 : MS, S10 = (((S9.mk 13 ((36 : Int)).toNat).setR x0 32 (some S9.nx)).mk 13 ((7 : Int)).toNat).setR x0 36 (some (((S9.mk 13 ((36 : Int)).toNat).setR x0 32 (some S9.nx)).nx)) → S10.K x0 = 11 ∧ ∃ b11, S10.R x0 1 = some b11 ∧ ((S10.K b11 = 13 ∧ 0 ≤ (0 : Int) ∧ (0 : Int) < S10.N b11) ∧ (Q (.inl none) (S10.setI b11 ((0 : Int)).toNat 3))))))))))))))))))))))))))))))))))))))))))
theorem JX11_init_0 {d : Nat} {S0 : MS} {Q : Out → MS → Prop} (x0 : Nat) (S : MS) (h : VX11_init_0 d Q x0 S) : Jw FinM RX11 cX11_init 1 none [] yX11_init (d + 1) S0 S 0 [(0, vA x0)] [] Q :=
  j_aload_n 0 dX11_init_0 rfl (j_objInit w_6_218 dX11_init_1 (Nat.le_of_ble_eq_true rfl) w_1_36 w_objInit (j_aload_n 0 dX11_init_4 rfl (j_bipush dX11_init_5 rfl (j_newb 13 dX11_init_7 rfl (by decide) w_1_58 h (fun h => j_putFR 11 1 f_RX11_13 (by intro q h; cases h; rfl) rfl (fun b => ⟨rfl, rfl⟩) dX11_init_9 h (fun h => j_aload_n 0 dX11_init_12 rfl (j_bipush dX11_init_13 rfl (j_newb 13 dX11_init_15 rfl (by decide) w_1_58 h (fun h => j_putFR 11 2 f_RX11_17 (by intro q h; cases h; rfl) rfl (fun b => ⟨rfl, rfl⟩) dX11_init_17 h (fun h => j_bind h (fun S1 h => j_aload_n 0 dX11_init_20 rfl (j_bipush dX11_init_21 rfl (j_newb 13 dX11_init_23 rfl (by decide) w_1_58 h (fun h => j_putFR 11 3 f_RX11_20 (by intro q h; cases h; rfl) rfl (fun b => ⟨rfl, rfl⟩) dX11_init_25 h (fun h => j_aload_n 0 dX11_init_28 rfl (j_sipush dX11_init_29 rfl (j_newb 12 dX11_init_32 rfl (by decide) w_5_1 h (fun h => j_putFR 11 5 f_RX11_23 (by intro q h; cases h; rfl) rfl (fun b => ⟨rfl, rfl⟩) dX11_init_34 h (fun h => j_bind h (fun S2 h => j_aload_n 0 dX11_init_37 rfl (j_iconst dX11_init_38 (j_putI 11 10 f_RX11_27 dX11_init_39 h (fun h => j_aload_n 0 dX11_init_42 rfl (j_iconst dX11_init_43 (j_newb 13 dX11_init_44 rfl (by decide) w_1_58 h (fun h => j_putFR 11 11 f_RX11_30 (by intro q h; cases h; rfl) rfl (fun b => ⟨rfl, rfl⟩) dX11_init_46 h (fun h => j_bind h (fun S3 h => j_aload_n 0 dX11_init_49 rfl (j_ldc dX11_init_50 w_6_219 rfl (j_newb 12 dX11_init_52 rfl (by decide) w_5_1 h (fun h => j_putFR 11 12 f_RX11_34 (by intro q h; cases h; rfl) rfl (fun b => ⟨rfl, rfl⟩) dX11_init_54 h (fun h => j_aload_n 0 dX11_init_57 rfl (j_iconst dX11_init_58 (j_newb 13 dX11_init_59 rfl (by decide) w_1_58 h (fun h => j_putFR 11 15 f_RX11_37 (by intro q h; cases h; rfl) rfl (fun b => ⟨rfl, rfl⟩) dX11_init_61 h (fun h => j_bind h (fun S4 h => j_aload_n 0 dX11_init_64 rfl (j_ldc dX11_init_65 w_6_220 rfl (j_newb 15 dX11_init_67 rfl (by decide) w_7_99 h (fun h => j_putFR 11 16 f_RX11_41 (by intro q h; cases h; rfl) rfl (fun b => ⟨rfl, rfl⟩) dX11_init_69 h (fun h => j_aload_n 0 dX11_init_72 rfl (j_bipush dX11_init_73 rfl (j_newb 13 dX11_init_75 rfl (by decide) w_1_58 h (fun h => j_putFR 11 17 f_RX11_45 (by intro q h; cases h; rfl) rfl (fun b => ⟨rfl, rfl⟩) dX11_init_77 h (fun h => j_bind h (fun S5 h => j_aload_n 0 dX11_init_80 rfl (j_sipush dX11_init_81 rfl (j_newb 16 dX11_init_84 rfl (by decide) w_7_100 h (fun h => j_putFR 11 18 f_RX11_48 (by intro q h; cases h; rfl) rfl (fun b => ⟨rfl, rfl⟩) dX11_init_86 h (fun h => j_aload_n 0 dX11_init_89 rfl (j_sipush dX11_init_90 rfl (j_newb 13 dX11_init_93 rfl (by decide) w_1_58 h (fun h => j_putFR 11 19 f_RX11_52 (by intro q h; cases h; rfl) rfl (fun b => ⟨rfl, rfl⟩) dX11_init_95 h (fun h => j_bind h (fun S6 h => j_aload_n 0 dX11_init_98 rfl (j_bipush dX11_init_99 rfl (j_newb 13 dX11_init_101 rfl (by decide) w_1_58 h (fun h => j_putFR 11 21 f_RX11_55 (by intro q h; cases h; rfl) rfl (fun b => ⟨rfl, rfl⟩) dX11_init_103 h (fun h => j_aload_n 0 dX11_init_106 rfl (j_bipush dX11_init_107 rfl (j_newb 13 dX11_init_109 rfl (by decide) w_1_58 h (fun h => j_putFR 11 22 f_RX11_58 (by intro q h; cases h; rfl) rfl (fun b => ⟨rfl, rfl⟩) dX11_init_111 h (fun h => j_bind h (fun S7 h => j_aload_n 0 dX11_init_114 rfl (j_bipush dX11_init_115 rfl (j_newb 13 dX11_init_117 rfl (by decide) w_1_58 h (fun h => j_putFR 11 24 f_RX11_61 (by intro q h; cases h; rfl) rfl (fun b => ⟨rfl, rfl⟩) dX11_init_119 h (fun h => j_aload_n 0 dX11_init_122 rfl (j_bipush dX11_init_123 rfl (j_newb 13 dX11_init_125 rfl (by decide) w_1_58 h (fun h => j_putFR 11 28 f_RX11_64 (by intro q h; cases h; rfl) rfl (fun b => ⟨rfl, rfl⟩) dX11_init_127 h (fun h => j_bind h (fun S8 h => j_aload_n 0 dX11_init_130 rfl (j_bipush dX11_init_131 rfl (j_newb 13 dX11_init_133 rfl (by decide) w_1_58 h (fun h => j_putFR 11 29 f_RX11_67 (by intro q h; cases h; rfl) rfl (fun b => ⟨rfl, rfl⟩) dX11_init_135 h (fun h => j_aload_n 0 dX11_init_138 rfl (j_bipush dX11_init_139 rfl (j_newb 13 dX11_init_141 rfl (by decide) w_1_58 h (fun h => j_putFR 11 31 f_RX11_70 (by intro q h; cases h; rfl) rfl (fun b => ⟨rfl, rfl⟩) dX11_init_143 h (fun h => j_bind h (fun S9 h => j_aload_n 0 dX11_init_146 rfl (j_bipush dX11_init_147 rfl (j_newb 13 dX11_init_149 rfl (by decide) w_1_58 h (fun h => j_putFR 11 32 f_RX11_73 (by intro q h; cases h; rfl) rfl (fun b => ⟨rfl, rfl⟩) dX11_init_151 h (fun h => j_aload_n 0 dX11_init_154 rfl (j_bipush dX11_init_155 rfl (j_newb 13 dX11_init_157 rfl (by decide) w_1_58 h (fun h => j_putFR 11 36 f_RX11_76 (by intro q h; cases h; rfl) rfl (fun b => ⟨rfl, rfl⟩) dX11_init_159 h (fun h => j_bind h (fun S10 h => j_aload_n 0 dX11_init_162 rfl (j_getR 11 1 f_RX11_13 dX11_init_163 h (fun b11 h => j_iconst dX11_init_166 (j_iconst dX11_init_167 (j_iast dX11_init_168 h (fun h => j_vret rfl dX11_init_169 h))))))))))))))))))))))))))))))))))))))))))))))))))))))))))))))))))))))))))))))))))))))))))))))))
theorem MX11_init {d : Nat} {x0 : Nat} {S : MS} {Q : Out → MS → Prop} (h : VX11_init_0 d Q x0 S) : Mw hX11_init yX11_init (d + 1) [vA x0] S Q := Mw.ofJ (by decide) (Nat.le_of_ble_eq_true rfl) (JX11_init_0 _ S h)
theorem dX11_image_0 : decode cX11_image 0 = .ok (.aload_n 0, 1) := by decide +kernel
theorem dX11_image_1 : decode cX11_image 1 = .ok (.iconst 0, 1) := by decide +kernel
theorem dX11_image_2 : decode cX11_image 2 = .ok (.putfield 3, 3) := by decide +kernel
theorem dX11_image_5 : decode cX11_image 5 = .ok (.iconst 0, 1) := by decide +kernel
theorem dX11_image_6 : decode cX11_image 6 = .ok (.istore_n 1, 1) := by decide +kernel
theorem dX11_image_7 : decode cX11_image 7 = .ok (.iload_n 1, 1) := by decide +kernel
theorem dX11_image_8 : decode cX11_image 8 = .ok (.bipush 71, 2) := by decide +kernel
theorem dX11_image_10 : decode cX11_image 10 = .ok (.if_icmp .ge 21, 3) := by decide +kernel
theorem dX11_image_13 : decode cX11_image 13 = .ok (.aload_n 0, 1) := by decide +kernel
theorem dX11_image_14 : decode cX11_image 14 = .ok (.getfield 17, 3) := by decide +kernel
theorem dX11_image_17 : decode cX11_image 17 = .ok (.iload_n 1, 1) := by decide +kernel
theorem dX11_image_18 : decode cX11_image 18 = .ok (.aload_n 0, 1) := by decide +kernel
theorem dX11_image_19 : decode cX11_image 19 = .ok (.getfield 13, 3) := by decide +kernel
theorem dX11_image_22 : decode cX11_image 22 = .ok (.iload_n 1, 1) := by decide +kernel
theorem dX11_image_23 : decode cX11_image 23 = .ok (.iaload, 1) := by decide +kernel
theorem dX11_image_24 : decode cX11_image 24 = .ok (.iastore, 1) := by decide +kernel
theorem dX11_image_25 : decode cX11_image 25 = .ok (.iinc 1 1, 3) := by decide +kernel
theorem dX11_image_28 : decode cX11_image 28 = .ok (.goto (-21), 3) := by decide +kernel
theorem dX11_image_31 : decode cX11_image 31 = .ok (.aload_n 0, 1) := by decide +kernel
theorem dX11_image_32 : decode cX11_image 32 = .ok (.iconst 1, 1) := by decide +kernel
theorem dX11_image_33 : decode cX11_image 33 = .ok (.putfield 79, 3) := by decide +kernel
theorem dX11_image_36 : decode cX11_image 36 = .ok (.return_, 1) := by decide +kernel
def VX11_image_7 (d : Nat) (Q : Out → MS → Prop) : Nat → Nat → Int → MS → Prop
  | 0, _, _, _ => False
  | n + 1, x0, x1, S => (R32 x1 ∧ R32 (71 : Int)) ∧ (((71 : Int) ≤ x1) → (S.K x0 = 11 ∧ B01 1) ∧ (Q (.inl none) (S.setI x0 4 1))) ∧ (¬ ((71 : Int) ≤ x1) → S.K x0 = 11 ∧ ∃ b1, S.R x0 2 = some b1 ∧ (S.K x0 = 11 ∧ ∃ b2, S.R x0 1 = some b2 ∧ ((S.K b2 = 13 ∧ 0 ≤ x1 ∧ x1 < S.N b2) ∧ ((S.K b1 = 13 ∧ 0 ≤ x1 ∧ x1 < S.N b1) ∧ ((VX11_image_7 d Q n) x0 (x1 + 1) (S.setI b1 (x1).toNat (S.I b2 (x1).toNat)))))))
theorem JX11_image_7 {d : Nat} {S0 : MS} {Q : Out → MS → Prop} : ∀ (n : Nat) (x0 : Nat) (x1 : Int) (S : MS), VX11_image_7 d Q n x0 x1 S → Jw FinM RX11 cX11_image 2 none [] yX11_image (d + 1) S0 S 7 [(0, vA x0), (1, vI x1)] [] Q := by
  intro n
  induction n with
  | zero => intro x0 x1 S h; exact h.elim
  | succ n ih =>
    intro x0 x1 S h
    exact j_iload_n 1 dX11_image_7 rfl (j_bipush dX11_image_8 rfl (j_icmp_ge (tgt := 31) dX11_image_10 (by decide) h (fun h => j_aload_n 0 dX11_image_31 rfl (j_iconst dX11_image_32 (j_putZ 11 4 f_RX11_79 dX11_image_33 h (fun h => j_vret rfl dX11_image_36 h)))) (fun h => j_aload_n 0 dX11_image_13 rfl (j_getR 11 2 f_RX11_17 dX11_image_14 h (fun b1 h => j_iload_n 1 dX11_image_17 rfl (j_aload_n 0 dX11_image_18 rfl (j_getR 11 1 f_RX11_13 dX11_image_19 h (fun b2 h => j_iload_n 1 dX11_image_22 rfl (j_iald dX11_image_23 h (fun h => j_iast dX11_image_24 h (fun h => j_iinc 1 (lv2 := [(1, vI (x1 + 1)), (0, vA x0)]) dX11_image_25 rfl (by decide) rfl (j_goto (tgt := 7) dX11_image_28 (by decide) (j_sub [1, 0] rfl (ih _ _ _ h))))))))))))))
def VX11_image_0 (d : Nat) (Q : Out → MS → Prop) (x0 : Nat) (S : MS) : Prop :=
  S.K x0 = 11 ∧ (∃ m, VX11_image_7 d Q m x0 0 (S.setI x0 0 0))
theorem JX11_image_0 {d : Nat} {S0 : MS} {Q : Out → MS → Prop} (x0 : Nat) (S : MS) (h : VX11_image_0 d Q x0 S) : Jw FinM RX11 cX11_image 2 none [] yX11_image (d + 1) S0 S 0 [(0, vA x0)] [] Q :=
  j_aload_n 0 dX11_image_0 rfl (j_iconst dX11_image_1 (j_putI 11 0 f_RX11_3 dX11_image_2 h (fun h => j_iconst dX11_image_5 (j_istore_n (lv2 := [(1, vI 0), (0, vA x0)]) dX11_image_6 (by decide) rfl (Exists.elim h (fun m h => j_sub [1, 0] rfl (JX11_image_7 m _ _ _ h)))))))
theorem MX11_image {d : Nat} {x0 : Nat} {S : MS} {Q : Out → MS → Prop} (h : VX11_image_0 d Q x0 S) : Mw hX11_image yX11_image (d + 1) [vA x0] S Q := Mw.ofJ (by decide) (Nat.le_of_ble_eq_true rfl) (JX11_image_0 _ S h)
theorem dX11_back_0 : decode cX11_back 0 = .ok (.aload_n 0, 1) := by decide +kernel
theorem dX11_back_1 : decode cX11_back 1 = .ok (.iconst 0, 1) := by decide +kernel
theorem dX11_back_2 : decode cX11_back 2 = .ok (.putfield 3, 3) := by decide +kernel
theorem dX11_back_5 : decode cX11_back 5 = .ok (.aload_n 0, 1) := by decide +kernel
theorem dX11_back_6 : decode cX11_back 6 = .ok (.getfield 79, 3) := by decide +kernel
theorem dX11_back_9 : decode cX11_back 9 = .ok (.ifCond .ne 5, 3) := by decide +kernel
theorem dX11_back_12 : decode cX11_back 12 = .ok (.iconst 0, 1) := by decide +kernel
theorem dX11_back_13 : decode cX11_back 13 = .ok (.ireturn, 1) := by decide +kernel
theorem dX11_back_14 : decode cX11_back 14 = .ok (.iconst 0, 1) := by decide +kernel
theorem dX11_back_15 : decode cX11_back 15 = .ok (.istore_n 1, 1) := by decide +kernel
theorem dX11_back_16 : decode cX11_back 16 = .ok (.iload_n 1, 1) := by decide +kernel
theorem dX11_back_17 : decode cX11_back 17 = .ok (.bipush 71, 2) := by decide +kernel
theorem dX11_back_19 : decode cX11_back 19 = .ok (.if_icmp .ge 21, 3) := by decide +kernel
theorem dX11_back_22 : decode cX11_back 22 = .ok (.aload_n 0, 1) := by decide +kernel
theorem dX11_back_23 : decode cX11_back 23 = .ok (.getfield 13, 3) := by decide +kernel
theorem dX11_back_26 : decode cX11_back 26 = .ok (.iload_n 1, 1) := by decide +kernel
theorem dX11_back_27 : decode cX11_back 27 = .ok (.aload_n 0, 1) := by decide +kernel
theorem dX11_back_28 : decode cX11_back 28 = .ok (.getfield 17, 3) := by decide +kernel
theorem dX11_back_31 : decode cX11_back 31 = .ok (.iload_n 1, 1) := by decide +kernel
theorem dX11_back_32 : decode cX11_back 32 = .ok (.iaload, 1) := by decide +kernel
theorem dX11_back_33 : decode cX11_back 33 = .ok (.iastore, 1) := by decide +kernel
theorem dX11_back_34 : decode cX11_back 34 = .ok (.iinc 1 1, 3) := by decide +kernel
theorem dX11_back_37 : decode cX11_back 37 = .ok (.goto (-21), 3) := by decide +kernel
theorem dX11_back_40 : decode cX11_back 40 = .ok (.iconst 1, 1) := by decide +kernel
theorem dX11_back_41 : decode cX11_back 41 = .ok (.ireturn, 1) := by decide +kernel
def VX11_back_16 (d : Nat) (Q : Out → MS → Prop) : Nat → Nat → Int → MS → Prop
  | 0, _, _, _ => False
  | n + 1, x0, x1, S => (R32 x1 ∧ R32 (71 : Int)) ∧ (((71 : Int) ≤ x1) → B01 1 ∧ Q (.inl (some (vI 1))) S) ∧ (¬ ((71 : Int) ≤ x1) → S.K x0 = 11 ∧ ∃ b1, S.R x0 1 = some b1 ∧ (S.K x0 = 11 ∧ ∃ b2, S.R x0 2 = some b2 ∧ ((S.K b2 = 13 ∧ 0 ≤ x1 ∧ x1 < S.N b2) ∧ ((S.K b1 = 13 ∧ 0 ≤ x1 ∧ x1 < S.N b1) ∧ ((VX11_back_16 d Q n) x0 (x1 + 1) (S.setI b1 (x1).toNat (S.I b2 (x1).toNat)))))))
theorem JX11_back_16 {d : Nat} {S0 : MS} {Q : Out → MS → Prop} : ∀ (n : Nat) (x0 : Nat) (x1 : Int) (S : MS), VX11_back_16 d Q n x0 x1 S → Jw FinM RX11 cX11_back 2 (some .boolean) [] yX11_back (d + 1) S0 S 16 [(0, vA x0), (1, vI x1)] [] Q := by
  intro n
  induction n with
  | zero => intro x0 x1 S h; exact h.elim
  | succ n ih =>
    intro x0 x1 S h
    exact j_iload_n 1 dX11_back_16 rfl (j_bipush dX11_back_17 rfl (j_icmp_ge (tgt := 40) dX11_back_19 (by decide) h (fun h => j_iconst dX11_back_40 (j_zret rfl dX11_back_41 h)) (fun h => j_aload_n 0 dX11_back_22 rfl (j_getR 11 1 f_RX11_13 dX11_back_23 h (fun b1 h => j_iload_n 1 dX11_back_26 rfl (j_aload_n 0 dX11_back_27 rfl (j_getR 11 2 f_RX11_17 dX11_back_28 h (fun b2 h => j_iload_n 1 dX11_back_31 rfl (j_iald dX11_back_32 h (fun h => j_iast dX11_back_33 h (fun h => j_iinc 1 (lv2 := [(1, vI (x1 + 1)), (0, vA x0)]) dX11_back_34 rfl (by decide) rfl (j_goto (tgt := 16) dX11_back_37 (by decide) (j_sub [1, 0] rfl (ih _ _ _ h))))))))))))))
def VX11_back_0 (d : Nat) (Q : Out → MS → Prop) (x0 : Nat) (S : MS) : Prop :=
  S.K x0 = 11 ∧ ((S.setI x0 0 0).K x0 = 11 ∧ (R32 ((S.setI x0 0 0).I x0 4) ∧ (¬ (((S.setI x0 0 0).I x0 4) = 0) → ∃ m, VX11_back_16 d Q m x0 0 (S.setI x0 0 0)) ∧ ((((S.setI x0 0 0).I x0 4) = 0) → B01 0 ∧ Q (.inl (some (vI 0))) (S.setI x0 0 0))))
theorem JX11_back_0 {d : Nat} {S0 : MS} {Q : Out → MS → Prop} (x0 : Nat) (S : MS) (h : VX11_back_0 d Q x0 S) : Jw FinM RX11 cX11_back 2 (some .boolean) [] yX11_back (d + 1) S0 S 0 [(0, vA x0)] [] Q :=
  j_aload_n 0 dX11_back_0 rfl (j_iconst dX11_back_1 (j_putI 11 0 f_RX11_3 dX11_back_2 h (fun h => j_aload_n 0 dX11_back_5 rfl (j_getI 11 4 f_RX11_79 dX11_back_6 h (fun h => j_if_ne (tgt := 14) dX11_back_9 (by decide) h (fun h => j_iconst dX11_back_14 (j_istore_n (lv2 := [(1, vI 0), (0, vA x0)]) dX11_back_15 (by decide) rfl (Exists.elim h (fun m h => j_sub [1, 0] rfl (JX11_back_16 m _ _ _ h))))) (fun h => j_iconst dX11_back_12 (j_zret rfl dX11_back_13 h)))))))
theorem MX11_back {d : Nat} {x0 : Nat} {S : MS} {Q : Out → MS → Prop} (h : VX11_back_0 d Q x0 S) : Mw hX11_back yX11_back (d + 1) [vA x0] S Q := Mw.ofJ (by decide) (Nat.le_of_ble_eq_true rfl) (JX11_back_0 _ S h)
theorem dX11_things_0 : decode cX11_things 0 = .ok (.aload_n 0, 1) := by decide +kernel
theorem dX11_things_1 : decode cX11_things 1 = .ok (.getfield 13, 3) := by decide +kernel
theorem dX11_things_4 : decode cX11_things 4 = .ok (.iconst 0, 1) := by decide +kernel
theorem dX11_things_5 : decode cX11_things 5 = .ok (.iaload, 1) := by decide +kernel
theorem dX11_things_6 : decode cX11_things 6 = .ok (.ireturn, 1) := by decide +kernel
def VX11_things_0 (d : Nat) (Q : Out → MS → Prop) (x0 : Nat) (S : MS) : Prop :=
  S.K x0 = 11 ∧ ∃ b1, S.R x0 1 = some b1 ∧ ((S.K b1 = 13 ∧ 0 ≤ (0 : Int) ∧ (0 : Int) < S.N b1) ∧ (Q (.inl (some (vI (S.I b1 ((0 : Int)).toNat)))) S))
theorem JX11_things_0 {d : Nat} {S0 : MS} {Q : Out → MS → Prop} (x0 : Nat) (S : MS) (h : VX11_things_0 d Q x0 S) : Jw FinM RX11 cX11_things 1 (some .int) [] yX11_things (d + 1) S0 S 0 [(0, vA x0)] [] Q :=
  j_aload_n 0 dX11_things_0 rfl (j_getR 11 1 f_RX11_13 dX11_things_1 h (fun b1 h => j_iconst dX11_things_4 (j_iald dX11_things_5 h (fun h => j_iret rfl dX11_things_6 h))))
theorem MX11_things {d : Nat} {x0 : Nat} {S : MS} {Q : Out → MS → Prop} (h : VX11_things_0 d Q x0 S) : Mw hX11_things yX11_things (d + 1) [vA x0] S Q := Mw.ofJ (by decide) (Nat.le_of_ble_eq_true rfl) (JX11_things_0 _ S h)
theorem dX11_notes_0 : decode cX11_notes 0 = .ok (.aload_n 0, 1) := by decide +kernel
theorem dX11_notes_1 : decode cX11_notes 1 = .ok (.getfield 13, 3) := by decide +kernel
theorem dX11_notes_4 : decode cX11_notes 4 = .ok (.iconst 2, 1) := by decide +kernel
theorem dX11_notes_5 : decode cX11_notes 5 = .ok (.iaload, 1) := by decide +kernel
theorem dX11_notes_6 : decode cX11_notes 6 = .ok (.ireturn, 1) := by decide +kernel
def VX11_notes_0 (d : Nat) (Q : Out → MS → Prop) (x0 : Nat) (S : MS) : Prop :=
  S.K x0 = 11 ∧ ∃ b1, S.R x0 1 = some b1 ∧ ((S.K b1 = 13 ∧ 0 ≤ (2 : Int) ∧ (2 : Int) < S.N b1) ∧ (Q (.inl (some (vI (S.I b1 ((2 : Int)).toNat)))) S))
theorem JX11_notes_0 {d : Nat} {S0 : MS} {Q : Out → MS → Prop} (x0 : Nat) (S : MS) (h : VX11_notes_0 d Q x0 S) : Jw FinM RX11 cX11_notes 1 (some .int) [] yX11_notes (d + 1) S0 S 0 [(0, vA x0)] [] Q :=
  j_aload_n 0 dX11_notes_0 rfl (j_getR 11 1 f_RX11_13 dX11_notes_1 h (fun b1 h => j_iconst dX11_notes_4 (j_iald dX11_notes_5 h (fun h => j_iret rfl dX11_notes_6 h))))
theorem MX11_notes {d : Nat} {x0 : Nat} {S : MS} {Q : Out → MS → Prop} (h : VX11_notes_0 d Q x0 S) : Mw hX11_notes yX11_notes (d + 1) [vA x0] S Q := Mw.ofJ (by decide) (Nat.le_of_ble_eq_true rfl) (JX11_notes_0 _ S h)
theorem dX11_noThing_0 : decode cX11_noThing 0 = .ok (.iload_n 1, 1) := by decide +kernel
theorem dX11_noThing_1 : decode cX11_noThing 1 = .ok (.iconst 0, 1) := by decide +kernel
theorem dX11_noThing_2 : decode cX11_noThing 2 = .ok (.aload_n 0, 1) := by decide +kernel
theorem dX11_noThing_3 : decode cX11_noThing 3 = .ok (.invokevirtual 83, 3) := by decide +kernel
theorem dX11_noThing_6 : decode cX11_noThing 6 = .ok (.iconst 1, 1) := by decide +kernel
theorem dX11_noThing_7 : decode cX11_noThing 7 = .ok (.isub, 1) := by decide +kernel
theorem dX11_noThing_8 : decode cX11_noThing 8 = .ok (.invokestatic 87, 3) := by decide +kernel
theorem dX11_noThing_11 : decode cX11_noThing 11 = .ok (.ifCond .ne 7, 3) := by decide +kernel
theorem dX11_noThing_14 : decode cX11_noThing 14 = .ok (.iconst 1, 1) := by decide +kernel
theorem dX11_noThing_15 : decode cX11_noThing 15 = .ok (.goto 4, 3) := by decide +kernel
theorem dX11_noThing_18 : decode cX11_noThing 18 = .ok (.iconst 0, 1) := by decide +kernel
theorem dX11_noThing_19 : decode cX11_noThing 19 = .ok (.ireturn, 1) := by decide +kernel
def VX11_noThing_0 (d : Nat) (Q : Out → MS → Prop) (x0 : Nat) (x1 : Int) (S : MS) : Prop :=
  S.K x0 = 11 ∧ Mw hX11_things yX11_things d [vA x0] S (oI (fun r1 S1 => Mw hX11_in yX11_in d [vI x1, vI 0, vI (r1 - 1)] S1 (oI (fun r2 S2 => R32 r2 ∧ (¬ (r2 = 0) → B01 0 ∧ Q (.inl (some (vI 0))) S2) ∧ ((r2 = 0) → B01 1 ∧ Q (.inl (some (vI 1))) S2)))))
theorem JX11_noThing_0 {d : Nat} {S0 : MS} {Q : Out → MS → Prop} (x0 : Nat) (x1 : Int) (S : MS) (h : VX11_noThing_0 d Q x0 x1 S) : Jw FinM RX11 cX11_noThing 2 (some .boolean) [] yX11_noThing (d + 1) S0 S 0 [(0, vA x0), (1, vI x1)] [] Q :=
  j_iload_n 1 dX11_noThing_0 rfl (j_iconst dX11_noThing_1 (j_aload_n 0 dX11_noThing_2 rfl (j_callV (rest := [vI 0, vI x1]) 11 [] k_RX11_83 ⟨w_7_218, p_4_10⟩ ⟨_, _, rfl⟩ (by decide) rfl rfl (Nat.le_of_ble_eq_true rfl) dX11_noThing_3 h (kI (fun r1 S1 h => j_iconst dX11_noThing_6 (j_isub dX11_noThing_7 (j_callS (rest := []) [vI x1, vI 0, vI (r1 - 1)] k_RX11_87 w_7_198 rfl rfl (Nat.le_of_ble_eq_true rfl) dX11_noThing_8 h (kI (fun r2 S2 h => j_if_ne (tgt := 18) dX11_noThing_11 (by decide) h (fun h => j_iconst dX11_noThing_18 (j_zret rfl dX11_noThing_19 h)) (fun h => j_iconst dX11_noThing_14 (j_goto (tgt := 19) dX11_noThing_15 (by decide) (j_zret rfl dX11_noThing_19 h))))) (fun _ _ h => h.elim))))) (fun _ _ h => h.elim))))
theorem MX11_noThing {d : Nat} {x0 : Nat} {x1 : Int} {S : MS} {Q : Out → MS → Prop} (h : VX11_noThing_0 d Q x0 x1 S) : Mw hX11_noThing yX11_noThing (d + 1) [vA x0, vI x1] S Q := Mw.ofJ (by decide) (Nat.le_of_ble_eq_true rfl) (JX11_noThing_0 _ _ S h)
theorem dX11_noScale_0 : decode cX11_noScale 0 = .ok (.iload_n 1, 1) := by decide +kernel
theorem dX11_noScale_1 : decode cX11_noScale 1 = .ok (.iconst 0, 1) := by decide +kernel
theorem dX11_noScale_2 : decode cX11_noScale 2 = .ok (.aload_n 0, 1) := by decide +kernel
theorem dX11_noScale_3 : decode cX11_noScale 3 = .ok (.getfield 13, 3) := by decide +kernel
theorem dX11_noScale_6 : decode cX11_noScale 6 = .ok (.iconst 1, 1) := by decide +kernel
theorem dX11_noScale_7 : decode cX11_noScale 7 = .ok (.iaload, 1) := by decide +kernel
theorem dX11_noScale_8 : decode cX11_noScale 8 = .ok (.iconst 1, 1) := by decide +kernel
theorem dX11_noScale_9 : decode cX11_noScale 9 = .ok (.isub, 1) := by decide +kernel
theorem dX11_noScale_10 : decode cX11_noScale 10 = .ok (.invokestatic 87, 3) := by decide +kernel
theorem dX11_noScale_13 : decode cX11_noScale 13 = .ok (.ifCond .ne 7, 3) := by decide +kernel
theorem dX11_noScale_16 : decode cX11_noScale 16 = .ok (.iconst 1, 1) := by decide +kernel
theorem dX11_noScale_17 : decode cX11_noScale 17 = .ok (.goto 4, 3) := by decide +kernel
theorem dX11_noScale_20 : decode cX11_noScale 20 = .ok (.iconst 0, 1) := by decide +kernel
theorem dX11_noScale_21 : decode cX11_noScale 21 = .ok (.ireturn, 1) := by decide +kernel
def VX11_noScale_0 (d : Nat) (Q : Out → MS → Prop) (x0 : Nat) (x1 : Int) (S : MS) : Prop :=
  S.K x0 = 11 ∧ ∃ b1, S.R x0 1 = some b1 ∧ ((S.K b1 = 13 ∧ 0 ≤ (1 : Int) ∧ (1 : Int) < S.N b1) ∧ (Mw hX11_in yX11_in d [vI x1, vI 0, vI ((S.I b1 ((1 : Int)).toNat) - 1)] S (oI (fun r2 S2 => R32 r2 ∧ (¬ (r2 = 0) → B01 0 ∧ Q (.inl (some (vI 0))) S2) ∧ ((r2 = 0) → B01 1 ∧ Q (.inl (some (vI 1))) S2)))))
theorem JX11_noScale_0 {d : Nat} {S0 : MS} {Q : Out → MS → Prop} (x0 : Nat) (x1 : Int) (S : MS) (h : VX11_noScale_0 d Q x0 x1 S) : Jw FinM RX11 cX11_noScale 2 (some .boolean) [] yX11_noScale (d + 1) S0 S 0 [(0, vA x0), (1, vI x1)] [] Q :=
  j_iload_n 1 dX11_noScale_0 rfl (j_iconst dX11_noScale_1 (j_aload_n 0 dX11_noScale_2 rfl (j_getR 11 1 f_RX11_13 dX11_noScale_3 h (fun b1 h => j_iconst dX11_noScale_6 (j_iald dX11_noScale_7 h (fun h => j_iconst dX11_noScale_8 (j_isub dX11_noScale_9 (j_callS (rest := []) [vI x1, vI 0, vI ((S.I b1 ((1 : Int)).toNat) - 1)] k_RX11_87 w_7_198 rfl rfl (Nat.le_of_ble_eq_true rfl) dX11_noScale_10 h (kI (fun r2 S2 h => j_if_ne (tgt := 20) dX11_noScale_13 (by decide) h (fun h => j_iconst dX11_noScale_20 (j_zret rfl dX11_noScale_21 h)) (fun h => j_iconst dX11_noScale_16 (j_goto (tgt := 21) dX11_noScale_17 (by decide) (j_zret rfl dX11_noScale_21 h))))) (fun _ _ h => h.elim)))))))))
theorem MX11_noScale {d : Nat} {x0 : Nat} {x1 : Int} {S : MS} {Q : Out → MS → Prop} (h : VX11_noScale_0 d Q x0 x1 S) : Mw hX11_noScale yX11_noScale (d + 1) [vA x0, vI x1] S Q := Mw.ofJ (by decide) (Nat.le_of_ble_eq_true rfl) (JX11_noScale_0 _ _ S h)
theorem dX11_noNote_0 : decode cX11_noNote 0 = .ok (.iload_n 1, 1) := by decide +kernel
theorem dX11_noNote_1 : decode cX11_noNote 1 = .ok (.iconst 0, 1) := by decide +kernel
theorem dX11_noNote_2 : decode cX11_noNote 2 = .ok (.aload_n 0, 1) := by decide +kernel
theorem dX11_noNote_3 : decode cX11_noNote 3 = .ok (.invokevirtual 91, 3) := by decide +kernel
theorem dX11_noNote_6 : decode cX11_noNote 6 = .ok (.iconst 1, 1) := by decide +kernel
theorem dX11_noNote_7 : decode cX11_noNote 7 = .ok (.isub, 1) := by decide +kernel
theorem dX11_noNote_8 : decode cX11_noNote 8 = .ok (.invokestatic 87, 3) := by decide +kernel
theorem dX11_noNote_11 : decode cX11_noNote 11 = .ok (.ifCond .ne 7, 3) := by decide +kernel
theorem dX11_noNote_14 : decode cX11_noNote 14 = .ok (.iconst 1, 1) := by decide +kernel
theorem dX11_noNote_15 : decode cX11_noNote 15 = .ok (.goto 4, 3) := by decide +kernel
theorem dX11_noNote_18 : decode cX11_noNote 18 = .ok (.iconst 0, 1) := by decide +kernel
theorem dX11_noNote_19 : decode cX11_noNote 19 = .ok (.ireturn, 1) := by decide +kernel
def VX11_noNote_0 (d : Nat) (Q : Out → MS → Prop) (x0 : Nat) (x1 : Int) (S : MS) : Prop :=
  S.K x0 = 11 ∧ Mw hX11_notes yX11_notes d [vA x0] S (oI (fun r1 S1 => Mw hX11_in yX11_in d [vI x1, vI 0, vI (r1 - 1)] S1 (oI (fun r2 S2 => R32 r2 ∧ (¬ (r2 = 0) → B01 0 ∧ Q (.inl (some (vI 0))) S2) ∧ ((r2 = 0) → B01 1 ∧ Q (.inl (some (vI 1))) S2)))))
theorem JX11_noNote_0 {d : Nat} {S0 : MS} {Q : Out → MS → Prop} (x0 : Nat) (x1 : Int) (S : MS) (h : VX11_noNote_0 d Q x0 x1 S) : Jw FinM RX11 cX11_noNote 2 (some .boolean) [] yX11_noNote (d + 1) S0 S 0 [(0, vA x0), (1, vI x1)] [] Q :=
  j_iload_n 1 dX11_noNote_0 rfl (j_iconst dX11_noNote_1 (j_aload_n 0 dX11_noNote_2 rfl (j_callV (rest := [vI 0, vI x1]) 11 [] k_RX11_91 ⟨w_7_202, p_4_8⟩ ⟨_, _, rfl⟩ (by decide) rfl rfl (Nat.le_of_ble_eq_true rfl) dX11_noNote_3 h (kI (fun r1 S1 h => j_iconst dX11_noNote_6 (j_isub dX11_noNote_7 (j_callS (rest := []) [vI x1, vI 0, vI (r1 - 1)] k_RX11_87 w_7_198 rfl rfl (Nat.le_of_ble_eq_true rfl) dX11_noNote_8 h (kI (fun r2 S2 h => j_if_ne (tgt := 18) dX11_noNote_11 (by decide) h (fun h => j_iconst dX11_noNote_18 (j_zret rfl dX11_noNote_19 h)) (fun h => j_iconst dX11_noNote_14 (j_goto (tgt := 19) dX11_noNote_15 (by decide) (j_zret rfl dX11_noNote_19 h))))) (fun _ _ h => h.elim))))) (fun _ _ h => h.elim))))
theorem MX11_noNote {d : Nat} {x0 : Nat} {x1 : Int} {S : MS} {Q : Out → MS → Prop} (h : VX11_noNote_0 d Q x0 x1 S) : Mw hX11_noNote yX11_noNote (d + 1) [vA x0, vI x1] S Q := Mw.ofJ (by decide) (Nat.le_of_ble_eq_true rfl) (JX11_noNote_0 _ _ S h)
theorem dX11_ofNote_0 : decode cX11_ofNote 0 = .ok (.aload_n 0, 1) := by decide +kernel
theorem dX11_ofNote_1 : decode cX11_ofNote 1 = .ok (.getfield 13, 3) := by decide +kernel
theorem dX11_ofNote_4 : decode cX11_ofNote 4 = .ok (.bipush 23, 2) := by decide +kernel
theorem dX11_ofNote_6 : decode cX11_ofNote 6 = .ok (.iconst 3, 1) := by decide +kernel
theorem dX11_ofNote_7 : decode cX11_ofNote 7 = .ok (.iload_n 1, 1) := by decide +kernel
theorem dX11_ofNote_8 : decode cX11_ofNote 8 = .ok (.imul, 1) := by decide +kernel
theorem dX11_ofNote_9 : decode cX11_ofNote 9 = .ok (.iadd, 1) := by decide +kernel
theorem dX11_ofNote_10 : decode cX11_ofNote 10 = .ok (.iload_n 2, 1) := by decide +kernel
theorem dX11_ofNote_11 : decode cX11_ofNote 11 = .ok (.iadd, 1) := by decide +kernel
theorem dX11_ofNote_12 : decode cX11_ofNote 12 = .ok (.iaload, 1) := by decide +kernel
theorem dX11_ofNote_13 : decode cX11_ofNote 13 = .ok (.ireturn, 1) := by decide +kernel
def VX11_ofNote_0 (d : Nat) (Q : Out → MS → Prop) (x0 : Nat) (x1 : Int) (x2 : Int) (S : MS) : Prop :=
  S.K x0 = 11 ∧ ∃ b1, S.R x0 1 = some b1 ∧ ((S.K b1 = 13 ∧ 0 ≤ ((23 + (3 * x1)) + x2) ∧ ((23 + (3 * x1)) + x2) < S.N b1) ∧ (Q (.inl (some (vI (S.I b1 (((23 + (3 * x1)) + x2)).toNat)))) S))
theorem JX11_ofNote_0 {d : Nat} {S0 : MS} {Q : Out → MS → Prop} (x0 : Nat) (x1 : Int) (x2 : Int) (S : MS) (h : VX11_ofNote_0 d Q x0 x1 x2 S) : Jw FinM RX11 cX11_ofNote 3 (some .int) [] yX11_ofNote (d + 1) S0 S 0 [(0, vA x0), (1, vI x1), (2, vI x2)] [] Q :=
  j_aload_n 0 dX11_ofNote_0 rfl (j_getR 11 1 f_RX11_13 dX11_ofNote_1 h (fun b1 h => j_bipush dX11_ofNote_4 rfl (j_iconst dX11_ofNote_6 (j_iload_n 1 dX11_ofNote_7 rfl (j_imul dX11_ofNote_8 (j_iadd dX11_ofNote_9 (j_iload_n 2 dX11_ofNote_10 rfl (j_iadd dX11_ofNote_11 (j_iald dX11_ofNote_12 h (fun h => j_iret rfl dX11_ofNote_13 h))))))))))
theorem MX11_ofNote {d : Nat} {x0 : Nat} {x1 : Int} {x2 : Int} {S : MS} {Q : Out → MS → Prop} (h : VX11_ofNote_0 d Q x0 x1 x2 S) : Mw hX11_ofNote yX11_ofNote (d + 1) [vA x0, vI x1, vI x2] S Q := Mw.ofJ (by decide) (Nat.le_of_ble_eq_true rfl) (JX11_ofNote_0 _ _ _ S h)
theorem dX11_ofScale_0 : decode cX11_ofScale 0 = .ok (.aload_n 0, 1) := by decide +kernel
theorem dX11_ofScale_1 : decode cX11_ofScale 1 = .ok (.getfield 13, 3) := by decide +kernel
theorem dX11_ofScale_4 : decode cX11_ofScale 4 = .ok (.bipush 11, 2) := by decide +kernel
theorem dX11_ofScale_6 : decode cX11_ofScale 6 = .ok (.iconst 3, 1) := by decide +kernel
theorem dX11_ofScale_7 : decode cX11_ofScale 7 = .ok (.iload_n 1, 1) := by decide +kernel
theorem dX11_ofScale_8 : decode cX11_ofScale 8 = .ok (.imul, 1) := by decide +kernel
theorem dX11_ofScale_9 : decode cX11_ofScale 9 = .ok (.iadd, 1) := by decide +kernel
theorem dX11_ofScale_10 : decode cX11_ofScale 10 = .ok (.iload_n 2, 1) := by decide +kernel
theorem dX11_ofScale_11 : decode cX11_ofScale 11 = .ok (.iadd, 1) := by decide +kernel
theorem dX11_ofScale_12 : decode cX11_ofScale 12 = .ok (.iaload, 1) := by decide +kernel
theorem dX11_ofScale_13 : decode cX11_ofScale 13 = .ok (.ireturn, 1) := by decide +kernel
def VX11_ofScale_0 (d : Nat) (Q : Out → MS → Prop) (x0 : Nat) (x1 : Int) (x2 : Int) (S : MS) : Prop :=
  S.K x0 = 11 ∧ ∃ b1, S.R x0 1 = some b1 ∧ ((S.K b1 = 13 ∧ 0 ≤ ((11 + (3 * x1)) + x2) ∧ ((11 + (3 * x1)) + x2) < S.N b1) ∧ (Q (.inl (some (vI (S.I b1 (((11 + (3 * x1)) + x2)).toNat)))) S))
theorem JX11_ofScale_0 {d : Nat} {S0 : MS} {Q : Out → MS → Prop} (x0 : Nat) (x1 : Int) (x2 : Int) (S : MS) (h : VX11_ofScale_0 d Q x0 x1 x2 S) : Jw FinM RX11 cX11_ofScale 3 (some .int) [] yX11_ofScale (d + 1) S0 S 0 [(0, vA x0), (1, vI x1), (2, vI x2)] [] Q :=
  j_aload_n 0 dX11_ofScale_0 rfl (j_getR 11 1 f_RX11_13 dX11_ofScale_1 h (fun b1 h => j_bipush dX11_ofScale_4 rfl (j_iconst dX11_ofScale_6 (j_iload_n 1 dX11_ofScale_7 rfl (j_imul dX11_ofScale_8 (j_iadd dX11_ofScale_9 (j_iload_n 2 dX11_ofScale_10 rfl (j_iadd dX11_ofScale_11 (j_iald dX11_ofScale_12 h (fun h => j_iret rfl dX11_ofScale_13 h))))))))))
theorem MX11_ofScale {d : Nat} {x0 : Nat} {x1 : Int} {x2 : Int} {S : MS} {Q : Out → MS → Prop} (h : VX11_ofScale_0 d Q x0 x1 x2 S) : Mw hX11_ofScale yX11_ofScale (d + 1) [vA x0, vI x1, vI x2] S Q := Mw.ofJ (by decide) (Nat.le_of_ble_eq_true rfl) (JX11_ofScale_0 _ _ _ S h)
theorem dX11_pansOf_0 : decode cX11_pansOf 0 = .ok (.iload_n 0, 1) := by decide +kernel
theorem dX11_pansOf_1 : decode cX11_pansOf 1 = .ok (.ifCond .ne 7, 3) := by decide +kernel
theorem dX11_pansOf_4 : decode cX11_pansOf 4 = .ok (.iconst 3, 1) := by decide +kernel
theorem dX11_pansOf_5 : decode cX11_pansOf 5 = .ok (.goto 13, 3) := by decide +kernel
theorem dX11_pansOf_8 : decode cX11_pansOf 8 = .ok (.iload_n 0, 1) := by decide +kernel
theorem dX11_pansOf_9 : decode cX11_pansOf 9 = .ok (.iconst 1, 1) := by decide +kernel
theorem dX11_pansOf_10 : decode cX11_pansOf 10 = .ok (.if_icmp .ne 7, 3) := by decide +kernel
theorem dX11_pansOf_13 : decode cX11_pansOf 13 = .ok (.iconst 4, 1) := by decide +kernel
theorem dX11_pansOf_14 : decode cX11_pansOf 14 = .ok (.goto 4, 3) := by decide +kernel
theorem dX11_pansOf_17 : decode cX11_pansOf 17 = .ok (.iconst 2, 1) := by decide +kernel
theorem dX11_pansOf_18 : decode cX11_pansOf 18 = .ok (.ireturn, 1) := by decide +kernel
def VX11_pansOf_0 (d : Nat) (Q : Out → MS → Prop) (x0 : Int) (S : MS) : Prop :=
  R32 x0 ∧ (¬ (x0 = 0) → (R32 x0 ∧ R32 (1 : Int)) ∧ (¬ (x0 = (1 : Int)) → Q (.inl (some (vI 2))) S) ∧ ((x0 = (1 : Int)) → Q (.inl (some (vI 4))) S)) ∧ ((x0 = 0) → Q (.inl (some (vI 3))) S)
theorem JX11_pansOf_0 {d : Nat} {S0 : MS} {Q : Out → MS → Prop} (x0 : Int) (S : MS) (h : VX11_pansOf_0 d Q x0 S) : Jw FinM RX11 cX11_pansOf 1 (some .int) [] yX11_pansOf (d + 1) S0 S 0 [(0, vI x0)] [] Q :=
  j_iload_n 0 dX11_pansOf_0 rfl (j_if_ne (tgt := 8) dX11_pansOf_1 (by decide) h (fun h => j_iload_n 0 dX11_pansOf_8 rfl (j_iconst dX11_pansOf_9 (j_icmp_ne (tgt := 17) dX11_pansOf_10 (by decide) h (fun h => j_iconst dX11_pansOf_17 (j_iret rfl dX11_pansOf_18 h)) (fun h => j_iconst dX11_pansOf_13 (j_goto (tgt := 18) dX11_pansOf_14 (by decide) (j_iret rfl dX11_pansOf_18 h)))))) (fun h => j_iconst dX11_pansOf_4 (j_goto (tgt := 18) dX11_pansOf_5 (by decide) (j_iret rfl dX11_pansOf_18 h))))
theorem MX11_pansOf {d : Nat} {x0 : Int} {S : MS} {Q : Out → MS → Prop} (h : VX11_pansOf_0 d Q x0 S) : Mw hX11_pansOf yX11_pansOf (d + 1) [vI x0] S Q := Mw.ofJ (by decide) (Nat.le_of_ble_eq_true rfl) (JX11_pansOf_0 _ S h)
theorem dX11_pans_0 : decode cX11_pans 0 = .ok (.aload_n 0, 1) := by decide +kernel
theorem dX11_pans_1 : decode cX11_pans 1 = .ok (.iload_n 1, 1) := by decide +kernel
theorem dX11_pans_2 : decode cX11_pans 2 = .ok (.iconst 0, 1) := by decide +kernel
theorem dX11_pans_3 : decode cX11_pans 3 = .ok (.invokevirtual 94, 3) := by decide +kernel
theorem dX11_pans_6 : decode cX11_pans 6 = .ok (.invokestatic 98, 3) := by decide +kernel
theorem dX11_pans_9 : decode cX11_pans 9 = .ok (.ireturn, 1) := by decide +kernel
def VX11_pans_0 (d : Nat) (Q : Out → MS → Prop) (x0 : Nat) (x1 : Int) (S : MS) : Prop :=
  S.K x0 = 11 ∧ Mw hX11_ofScale yX11_ofScale d [vA x0, vI x1, vI 0] S (oI (fun r1 S1 => Mw hX11_pansOf yX11_pansOf d [vI r1] S1 (oI (fun r2 S2 => Q (.inl (some (vI r2))) S2))))
theorem JX11_pans_0 {d : Nat} {S0 : MS} {Q : Out → MS → Prop} (x0 : Nat) (x1 : Int) (S : MS) (h : VX11_pans_0 d Q x0 x1 S) : Jw FinM RX11 cX11_pans 2 (some .int) [] yX11_pans (d + 1) S0 S 0 [(0, vA x0), (1, vI x1)] [] Q :=
  j_aload_n 0 dX11_pans_0 rfl (j_iload_n 1 dX11_pans_1 rfl (j_iconst dX11_pans_2 (j_callV (rest := []) 11 [vI x1, vI 0] k_RX11_94 ⟨w_7_239, p_4_14⟩ ⟨_, _, rfl⟩ (by decide) rfl rfl (Nat.le_of_ble_eq_true rfl) dX11_pans_3 h (kI (fun r1 S1 h => j_callS (rest := []) [vI r1] k_RX11_98 w_7_181 rfl rfl (Nat.le_of_ble_eq_true rfl) dX11_pans_6 h (kI (fun r2 S2 h => j_iret rfl dX11_pans_9 h)) (fun _ _ h => h.elim))) (fun _ _ h => h.elim))))
theorem MX11_pans {d : Nat} {x0 : Nat} {x1 : Int} {S : MS} {Q : Out → MS → Prop} (h : VX11_pans_0 d Q x0 x1 S) : Mw hX11_pans yX11_pans (d + 1) [vA x0, vI x1] S Q := Mw.ofJ (by decide) (Nat.le_of_ble_eq_true rfl) (JX11_pans_0 _ _ S h)
theorem dX11_isNoSet_0 : decode cX11_isNoSet 0 = .ok (.iload_n 2, 1) := by decide +kernel
theorem dX11_isNoSet_1 : decode cX11_isNoSet 1 = .ok (.aload_n 0, 1) := by decide +kernel
theorem dX11_isNoSet_2 : decode cX11_isNoSet 2 = .ok (.invokevirtual 83, 3) := by decide +kernel
theorem dX11_isNoSet_5 : decode cX11_isNoSet 5 = .ok (.ishr, 1) := by decide +kernel
theorem dX11_isNoSet_6 : decode cX11_isNoSet 6 = .ok (.ifCond .ne 15, 3) := by decide +kernel
theorem dX11_isNoSet_9 : decode cX11_isNoSet 9 = .ok (.iload_n 2, 1) := by decide +kernel
theorem dX11_isNoSet_10 : decode cX11_isNoSet 10 = .ok (.invokestatic 102, 3) := by decide +kernel
theorem dX11_isNoSet_13 : decode cX11_isNoSet 13 = .ok (.aload_n 0, 1) := by decide +kernel
theorem dX11_isNoSet_14 : decode cX11_isNoSet 14 = .ok (.iload_n 1, 1) := by decide +kernel
theorem dX11_isNoSet_15 : decode cX11_isNoSet 15 = .ok (.invokevirtual 107, 3) := by decide +kernel
theorem dX11_isNoSet_18 : decode cX11_isNoSet 18 = .ok (.if_icmp .eq 7, 3) := by decide +kernel
theorem dX11_isNoSet_21 : decode cX11_isNoSet 21 = .ok (.iconst 1, 1) := by decide +kernel
theorem dX11_isNoSet_22 : decode cX11_isNoSet 22 = .ok (.goto 4, 3) := by decide +kernel
theorem dX11_isNoSet_25 : decode cX11_isNoSet 25 = .ok (.iconst 0, 1) := by decide +kernel
theorem dX11_isNoSet_26 : decode cX11_isNoSet 26 = .ok (.ireturn, 1) := by decide +kernel
def VX11_isNoSet_21 (d : Nat) (Q : Out → MS → Prop) (S : MS) : Prop :=
  B01 1 ∧ Q (.inl (some (vI 1))) S
theorem JX11_isNoSet_21 {d : Nat} {S0 : MS} {Q : Out → MS → Prop} (S : MS) (h : VX11_isNoSet_21 d Q S) : Jw FinM RX11 cX11_isNoSet 3 (some .boolean) [] yX11_isNoSet (d + 1) S0 S 21 [] [] Q :=
  j_iconst dX11_isNoSet_21 (j_goto (tgt := 26) dX11_isNoSet_22 (by decide) (j_zret rfl dX11_isNoSet_26 h))
def VX11_isNoSet_0 (d : Nat) (Q : Out → MS → Prop) (x0 : Nat) (x1 : Int) (x2 : Int) (S : MS) : Prop :=
  S.K x0 = 11 ∧ Mw hX11_things yX11_things d [vA x0] S (oI (fun r1 S1 => R32 (iShr x2 r1) ∧ (¬ ((iShr x2 r1) = 0) → VX11_isNoSet_21 d Q S1) ∧ (((iShr x2 r1) = 0) → Mw hJ6_bitCount_0f7a4 yJ6_bitCount_0f7a4 d [vI x2] S1 (oI (fun r2 S2 => S2.K x0 = 11 ∧ Mw hX11_pans yX11_pans d [vA x0, vI x1] S2 (oI (fun r3 S3 => (R32 r2 ∧ R32 r3) ∧ ((r2 = r3) → B01 0 ∧ Q (.inl (some (vI 0))) S3) ∧ (¬ (r2 = r3) → VX11_isNoSet_21 d Q S3))))))))
theorem JX11_isNoSet_0 {d : Nat} {S0 : MS} {Q : Out → MS → Prop} (x0 : Nat) (x1 : Int) (x2 : Int) (S : MS) (h : VX11_isNoSet_0 d Q x0 x1 x2 S) : Jw FinM RX11 cX11_isNoSet 3 (some .boolean) [] yX11_isNoSet (d + 1) S0 S 0 [(0, vA x0), (1, vI x1), (2, vI x2)] [] Q :=
  j_iload_n 2 dX11_isNoSet_0 rfl (j_aload_n 0 dX11_isNoSet_1 rfl (j_callV (rest := [vI x2]) 11 [] k_RX11_83 ⟨w_7_218, p_4_10⟩ ⟨_, _, rfl⟩ (by decide) rfl rfl (Nat.le_of_ble_eq_true rfl) dX11_isNoSet_2 h (kI (fun r1 S1 h => j_ishr dX11_isNoSet_5 (j_if_ne (tgt := 21) dX11_isNoSet_6 (by decide) h (fun h => j_sub [] rfl (JX11_isNoSet_21 _ h)) (fun h => j_iload_n 2 dX11_isNoSet_9 rfl (j_callS (rest := []) [vI x2] k_RX11_102 w_2_86 rfl rfl (Nat.le_of_ble_eq_true rfl) dX11_isNoSet_10 h (kI (fun r2 S2 h => j_aload_n 0 dX11_isNoSet_13 rfl (j_iload_n 1 dX11_isNoSet_14 rfl (j_callV (rest := [vI r2]) 11 [vI x1] k_RX11_107 ⟨w_7_235, p_4_13⟩ ⟨_, _, rfl⟩ (by decide) rfl rfl (Nat.le_of_ble_eq_true rfl) dX11_isNoSet_15 h (kI (fun r3 S3 h => j_icmp_eq (tgt := 25) dX11_isNoSet_18 (by decide) h (fun h => j_iconst dX11_isNoSet_25 (j_zret rfl dX11_isNoSet_26 h)) (fun h => j_sub [] rfl (JX11_isNoSet_21 _ h)))) (fun _ _ h => h.elim))))) (fun _ _ h => h.elim)))))) (fun _ _ h => h.elim)))
theorem MX11_isNoSet {d : Nat} {x0 : Nat} {x1 : Int} {x2 : Int} {S : MS} {Q : Out → MS → Prop} (h : VX11_isNoSet_0 d Q x0 x1 x2 S) : Mw hX11_isNoSet yX11_isNoSet (d + 1) [vA x0, vI x1, vI x2] S Q := Mw.ofJ (by decide) (Nat.le_of_ble_eq_true rfl) (JX11_isNoSet_0 _ _ _ S h)
theorem dX11_feed_0 : decode cX11_feed 0 = .ok (.aload_n 0, 1) := by decide +kernel
theorem dX11_feed_1 : decode cX11_feed 1 = .ok (.iconst 0, 1) := by decide +kernel
theorem dX11_feed_2 : decode cX11_feed 2 = .ok (.putfield 3, 3) := by decide +kernel
theorem dX11_feed_5 : decode cX11_feed 5 = .ok (.aload_n 0, 1) := by decide +kernel
theorem dX11_feed_6 : decode cX11_feed 6 = .ok (.getfield 110, 3) := by decide +kernel
theorem dX11_feed_9 : decode cX11_feed 9 = .ok (.bipush 20, 2) := by decide +kernel
theorem dX11_feed_11 : decode cX11_feed 11 = .ok (.iadd, 1) := by decide +kernel
theorem dX11_feed_12 : decode cX11_feed 12 = .ok (.sipush 400, 3) := by decide +kernel
theorem dX11_feed_15 : decode cX11_feed 15 = .ok (.if_icmp .le 5, 3) := by decide +kernel
theorem dX11_feed_18 : decode cX11_feed 18 = .ok (.iconst (-1), 1) := by decide +kernel
theorem dX11_feed_19 : decode cX11_feed 19 = .ok (.ireturn, 1) := by decide +kernel
theorem dX11_feed_20 : decode cX11_feed 20 = .ok (.aload_n 0, 1) := by decide +kernel
theorem dX11_feed_21 : decode cX11_feed 21 = .ok (.getfield 30, 3) := by decide +kernel
theorem dX11_feed_24 : decode cX11_feed 24 = .ok (.iconst 0, 1) := by decide +kernel
theorem dX11_feed_25 : decode cX11_feed 25 = .ok (.iload_n 1, 1) := by decide +kernel
theorem dX11_feed_26 : decode cX11_feed 26 = .ok (.iastore, 1) := by decide +kernel
theorem dX11_feed_27 : decode cX11_feed 27 = .ok (.aload_n 0, 1) := by decide +kernel
theorem dX11_feed_28 : decode cX11_feed 28 = .ok (.getfield 30, 3) := by decide +kernel
theorem dX11_feed_31 : decode cX11_feed 31 = .ok (.iconst 1, 1) := by decide +kernel
theorem dX11_feed_32 : decode cX11_feed 32 = .ok (.iload_n 2, 1) := by decide +kernel
theorem dX11_feed_33 : decode cX11_feed 33 = .ok (.iastore, 1) := by decide +kernel
theorem dX11_feed_34 : decode cX11_feed 34 = .ok (.aload_n 0, 1) := by decide +kernel
theorem dX11_feed_35 : decode cX11_feed 35 = .ok (.getfield 30, 3) := by decide +kernel
theorem dX11_feed_38 : decode cX11_feed 38 = .ok (.iconst 2, 1) := by decide +kernel
theorem dX11_feed_39 : decode cX11_feed 39 = .ok (.iload_n 3, 1) := by decide +kernel
theorem dX11_feed_40 : decode cX11_feed 40 = .ok (.iastore, 1) := by decide +kernel
theorem dX11_feed_41 : decode cX11_feed 41 = .ok (.aload_n 0, 1) := by decide +kernel
theorem dX11_feed_42 : decode cX11_feed 42 = .ok (.getfield 30, 3) := by decide +kernel
theorem dX11_feed_45 : decode cX11_feed 45 = .ok (.iconst 3, 1) := by decide +kernel
theorem dX11_feed_46 : decode cX11_feed 46 = .ok (.iload 4, 2) := by decide +kernel
theorem dX11_feed_48 : decode cX11_feed 48 = .ok (.iastore, 1) := by decide +kernel
theorem dX11_feed_49 : decode cX11_feed 49 = .ok (.aload_n 0, 1) := by decide +kernel
theorem dX11_feed_50 : decode cX11_feed 50 = .ok (.getfield 30, 3) := by decide +kernel
theorem dX11_feed_53 : decode cX11_feed 53 = .ok (.iconst 4, 1) := by decide +kernel
theorem dX11_feed_54 : decode cX11_feed 54 = .ok (.iload 5, 2) := by decide +kernel
theorem dX11_feed_56 : decode cX11_feed 56 = .ok (.iastore, 1) := by decide +kernel
theorem dX11_feed_57 : decode cX11_feed 57 = .ok (.iconst 0, 1) := by decide +kernel
theorem dX11_feed_58 : decode cX11_feed 58 = .ok (.istore 6, 2) := by decide +kernel
theorem dX11_feed_60 : decode cX11_feed 60 = .ok (.iload 6, 2) := by decide +kernel
theorem dX11_feed_62 : decode cX11_feed 62 = .ok (.bipush 20, 2) := by decide +kernel
theorem dX11_feed_64 : decode cX11_feed 64 = .ok (.if_icmp .ge 42, 3) := by decide +kernel
theorem dX11_feed_67 : decode cX11_feed 67 = .ok (.aload_n 0, 1) := by decide +kernel
theorem dX11_feed_68 : decode cX11_feed 68 = .ok (.getfield 23, 3) := by decide +kernel
theorem dX11_feed_71 : decode cX11_feed 71 = .ok (.aload_n 0, 1) := by decide +kernel
theorem dX11_feed_72 : decode cX11_feed 72 = .ok (.getfield 110, 3) := by decide +kernel
theorem dX11_feed_75 : decode cX11_feed 75 = .ok (.iload 6, 2) := by decide +kernel
theorem dX11_feed_77 : decode cX11_feed 77 = .ok (.iadd, 1) := by decide +kernel
theorem dX11_feed_78 : decode cX11_feed 78 = .ok (.aload_n 0, 1) := by decide +kernel
theorem dX11_feed_79 : decode cX11_feed 79 = .ok (.getfield 30, 3) := by decide +kernel
theorem dX11_feed_82 : decode cX11_feed 82 = .ok (.iload 6, 2) := by decide +kernel
theorem dX11_feed_84 : decode cX11_feed 84 = .ok (.iconst 4, 1) := by decide +kernel
theorem dX11_feed_85 : decode cX11_feed 85 = .ok (.idiv, 1) := by decide +kernel
theorem dX11_feed_86 : decode cX11_feed 86 = .ok (.iaload, 1) := by decide +kernel
theorem dX11_feed_87 : decode cX11_feed 87 = .ok (.bipush 24, 2) := by decide +kernel
theorem dX11_feed_89 : decode cX11_feed 89 = .ok (.bipush 8, 2) := by decide +kernel
theorem dX11_feed_91 : decode cX11_feed 91 = .ok (.iload 6, 2) := by decide +kernel
theorem dX11_feed_93 : decode cX11_feed 93 = .ok (.iconst 4, 1) := by decide +kernel
theorem dX11_feed_94 : decode cX11_feed 94 = .ok (.irem, 1) := by decide +kernel
theorem dX11_feed_95 : decode cX11_feed 95 = .ok (.imul, 1) := by decide +kernel
theorem dX11_feed_96 : decode cX11_feed 96 = .ok (.isub, 1) := by decide +kernel
theorem dX11_feed_97 : decode cX11_feed 97 = .ok (.ishr, 1) := by decide +kernel
theorem dX11_feed_98 : decode cX11_feed 98 = .ok (.i2b, 1) := by decide +kernel
theorem dX11_feed_99 : decode cX11_feed 99 = .ok (.bastore, 1) := by decide +kernel
theorem dX11_feed_100 : decode cX11_feed 100 = .ok (.iinc 6 1, 3) := by decide +kernel
theorem dX11_feed_103 : decode cX11_feed 103 = .ok (.goto (-43), 3) := by decide +kernel
theorem dX11_feed_106 : decode cX11_feed 106 = .ok (.aload_n 0, 1) := by decide +kernel
theorem dX11_feed_107 : decode cX11_feed 107 = .ok (.dup, 1) := by decide +kernel
theorem dX11_feed_108 : decode cX11_feed 108 = .ok (.getfield 110, 3) := by decide +kernel
theorem dX11_feed_111 : decode cX11_feed 111 = .ok (.bipush 20, 2) := by decide +kernel
theorem dX11_feed_113 : decode cX11_feed 113 = .ok (.iadd, 1) := by decide +kernel
theorem dX11_feed_114 : decode cX11_feed 114 = .ok (.putfield 110, 3) := by decide +kernel
theorem dX11_feed_117 : decode cX11_feed 117 = .ok (.aload_n 0, 1) := by decide +kernel
theorem dX11_feed_118 : decode cX11_feed 118 = .ok (.getfield 110, 3) := by decide +kernel
theorem dX11_feed_121 : decode cX11_feed 121 = .ok (.ireturn, 1) := by decide +kernel
def VX11_feed_60 (d : Nat) (Q : Out → MS → Prop) : Nat → Nat → Int → MS → Prop
  | 0, _, _, _ => False
  | n + 1, x0, x6, S => (R32 x6 ∧ R32 (20 : Int)) ∧ (((20 : Int) ≤ x6) → S.K x0 = 11 ∧ (S.K x0 = 11 ∧ ((S.setI x0 6 ((S.I x0 6) + 20)).K x0 = 11 ∧ (Q (.inl (some (vI ((S.setI x0 6 ((S.I x0 6) + 20)).I x0 6)))) (S.setI x0 6 ((S.I x0 6) + 20)))))) ∧ (¬ ((20 : Int) ≤ x6) → S.K x0 = 11 ∧ ∃ b1, S.R x0 5 = some b1 ∧ (S.K x0 = 11 ∧ (S.K x0 = 11 ∧ ∃ b2, S.R x0 11 = some b2 ∧ ((R32 (4 : Int) ∧ (4 : Int) ≠ 0) ∧ ((S.K b2 = 13 ∧ 0 ≤ (iDiv x6 4) ∧ (iDiv x6 4) < S.N b2) ∧ ((R32 (4 : Int) ∧ (4 : Int) ≠ 0) ∧ ((S.K b1 = 12 ∧ 0 ≤ ((S.I x0 6) + x6) ∧ ((S.I x0 6) + x6) < S.N b1) ∧ (∀ S3 : MS, S3 = S.setI b1 (((S.I x0 6) + x6)).toNat (i2B (i2B (iShr (S.I b2 ((iDiv x6 4)).toNat) (24 - (8 * (iRem x6 4)))))) → (VX11_feed_60 d Q n) x0 (x6 + 1) S3))))))))
theorem JX11_feed_60 {d : Nat} {S0 : MS} {Q : Out → MS → Prop} : ∀ (n : Nat) (x0 : Nat) (x6 : Int) (S : MS), VX11_feed_60 d Q n x0 x6 S → Jw FinM RX11 cX11_feed 7 (some .int) [] yX11_feed (d + 1) S0 S 60 [(0, vA x0), (6, vI x6)] [] Q := by
  intro n
  induction n with
  | zero => intro x0 x6 S h; exact h.elim
  | succ n ih =>
    intro x0 x6 S h
    exact j_iload 1 dX11_feed_60 rfl (j_bipush dX11_feed_62 rfl (j_icmp_ge (tgt := 106) dX11_feed_64 (by decide) h (fun h => j_aload_n 0 dX11_feed_106 rfl (j_dup rfl dX11_feed_107 (j_getI 11 6 f_RX11_110 dX11_feed_108 h (fun h => j_bipush dX11_feed_111 rfl (j_iadd dX11_feed_113 (j_putI 11 6 f_RX11_110 dX11_feed_114 h (fun h => j_aload_n 0 dX11_feed_117 rfl (j_getI 11 6 f_RX11_110 dX11_feed_118 h (fun h => j_iret rfl dX11_feed_121 h))))))))) (fun h => j_aload_n 0 dX11_feed_67 rfl (j_getR 11 5 f_RX11_23 dX11_feed_68 h (fun b1 h => j_aload_n 0 dX11_feed_71 rfl (j_getI 11 6 f_RX11_110 dX11_feed_72 h (fun h => j_iload 1 dX11_feed_75 rfl (j_iadd dX11_feed_77 (j_aload_n 0 dX11_feed_78 rfl (j_getR 11 11 f_RX11_30 dX11_feed_79 h (fun b2 h => j_iload 1 dX11_feed_82 rfl (j_iconst dX11_feed_84 (j_idiv dX11_feed_85 h (fun h => j_iald dX11_feed_86 h (fun h => j_bipush dX11_feed_87 rfl (j_bipush dX11_feed_89 rfl (j_iload 1 dX11_feed_91 rfl (j_iconst dX11_feed_93 (j_irem dX11_feed_94 h (fun h => j_imul dX11_feed_95 (j_isub dX11_feed_96 (j_ishr dX11_feed_97 (j_i2b dX11_feed_98 (j_bast dX11_feed_99 h (fun h => j_bind h (fun S3 h => j_iinc 1 (lv2 := [(6, vI (x6 + 1)), (0, vA x0)]) dX11_feed_100 rfl (by decide) rfl (j_goto (tgt := 60) dX11_feed_103 (by decide) (j_sub [1, 0] rfl (ih _ _ _ h)))))))))))))))))))))))))))))
def VX11_feed_0 (d : Nat) (Q : Out → MS → Prop) (x0 : Nat) (x1 : Int) (x2 : Int) (x3 : Int) (x4 : Int) (x5 : Int) (S : MS) : Prop :=
  S.K x0 = 11 ∧ ((S.setI x0 0 0).K x0 = 11 ∧ ((R32 (((S.setI x0 0 0).I x0 6) + 20) ∧ R32 (400 : Int)) ∧ (((((S.setI x0 0 0).I x0 6) + 20) ≤ (400 : Int)) → (S.setI x0 0 0).K x0 = 11 ∧ ∃ b1, (S.setI x0 0 0).R x0 11 = some b1 ∧ (((S.setI x0 0 0).K b1 = 13 ∧ 0 ≤ (0 : Int) ∧ (0 : Int) < (S.setI x0 0 0).N b1) ∧ (((S.setI x0 0 0).setI b1 ((0 : Int)).toNat x1).K x0 = 11 ∧ ∃ b2, ((S.setI x0 0 0).setI b1 ((0 : Int)).toNat x1).R x0 11 = some b2 ∧ ((((S.setI x0 0 0).setI b1 ((0 : Int)).toNat x1).K b2 = 13 ∧ 0 ≤ (1 : Int) ∧ (1 : Int) < ((S.setI x0 0 0).setI b1 ((0 : Int)).toNat x1).N b2) ∧ ((((S.setI x0 0 0).setI b1 ((0 : Int)).toNat x1).setI b2 ((1 : Int)).toNat x2).K x0 = 11 ∧ ∃ b3, (((S.setI x0 0 0).setI b1 ((0 : Int)).toNat x1).setI b2 ((1 : Int)).toNat x2).R x0 11 = some b3 ∧ (((((S.setI x0 0 0).setI b1 ((0 : Int)).toNat x1).setI b2 ((1 : Int)).toNat x2).K b3 = 13 ∧ 0 ≤ (2 : Int) ∧ (2 : Int) < (((S.setI x0 0 0).setI b1 ((0 : Int)).toNat x1).setI b2 ((1 : Int)).toNat x2).N b3) ∧ (∀ S4 : MS, S4 = (((S.setI x0 0 0).setI b1 ((0 : Int)).toNat x1).setI b2 ((1 : Int)).toNat x2).setI b3 ((2 : Int)).toNat x3 → S4.K x0 = 11 ∧ ∃ b5, S4.R x0 11 = some b5 ∧ ((S4.K b5 = 13 ∧ 0 ≤ (3 : Int) ∧ (3 : Int) < S4.N b5) ∧ ((S4.setI b5 ((3 : Int)).toNat x4).K x0 = 11 ∧ ∃ b6, (S4.setI b5 ((3 : Int)).toNat x4).R x0 11 = some b6 ∧ (((S4.setI b5 ((3 : Int)).toNat x4).K b6 = 13 ∧ 0 ≤ (4 : Int) ∧ (4 : Int) < (S4.setI b5 ((3 : Int)).toNat x4).N b6) ∧ (∃ m, VX11_feed_60 d Q m x0 0 ((S4.setI b5 ((3 : Int)).toNat x4).setI b6 ((4 : Int)).toNat x5)))))))))))) ∧ (¬ ((((S.setI x0 0 0).I x0 6) + 20) ≤ (400 : Int)) → Q (.inl (some (vI ((-1))))) (S.setI x0 0 0))))
theorem JX11_feed_0 {d : Nat} {S0 : MS} {Q : Out → MS → Prop} (x0 : Nat) (x1 : Int) (x2 : Int) (x3 : Int) (x4 : Int) (x5 : Int) (S : MS) (h : VX11_feed_0 d Q x0 x1 x2 x3 x4 x5 S) : Jw FinM RX11 cX11_feed 7 (some .int) [] yX11_feed (d + 1) S0 S 0 [(0, vA x0), (1, vI x1), (2, vI x2), (3, vI x3), (4, vI x4), (5, vI x5)] [] Q :=
  j_aload_n 0 dX11_feed_0 rfl (j_iconst dX11_feed_1 (j_putI 11 0 f_RX11_3 dX11_feed_2 h (fun h => j_aload_n 0 dX11_feed_5 rfl (j_getI 11 6 f_RX11_110 dX11_feed_6 h (fun h => j_bipush dX11_feed_9 rfl (j_iadd dX11_feed_11 (j_sipush dX11_feed_12 rfl (j_icmp_le (tgt := 20) dX11_feed_15 (by decide) h (fun h => j_aload_n 0 dX11_feed_20 rfl (j_getR 11 11 f_RX11_30 dX11_feed_21 h (fun b1 h => j_iconst dX11_feed_24 (j_iload_n 1 dX11_feed_25 rfl (j_iast dX11_feed_26 h (fun h => j_aload_n 0 dX11_feed_27 rfl (j_getR 11 11 f_RX11_30 dX11_feed_28 h (fun b2 h => j_iconst dX11_feed_31 (j_iload_n 2 dX11_feed_32 rfl (j_iast dX11_feed_33 h (fun h => j_aload_n 0 dX11_feed_34 rfl (j_getR 11 11 f_RX11_30 dX11_feed_35 h (fun b3 h => j_iconst dX11_feed_38 (j_iload_n 3 dX11_feed_39 rfl (j_iast dX11_feed_40 h (fun h => j_bind h (fun S4 h => j_aload_n 0 dX11_feed_41 rfl (j_getR 11 11 f_RX11_30 dX11_feed_42 h (fun b5 h => j_iconst dX11_feed_45 (j_iload 4 dX11_feed_46 rfl (j_iast dX11_feed_48 h (fun h => j_aload_n 0 dX11_feed_49 rfl (j_getR 11 11 f_RX11_30 dX11_feed_50 h (fun b6 h => j_iconst dX11_feed_53 (j_iload 5 dX11_feed_54 rfl (j_iast dX11_feed_56 h (fun h => j_iconst dX11_feed_57 (j_istore (lv2 := [(6, vI 0), (0, vA x0), (1, vI x1), (2, vI x2), (3, vI x3), (4, vI x4), (5, vI x5)]) dX11_feed_58 (by decide) rfl (Exists.elim h (fun m h => j_sub [1, 0] rfl (JX11_feed_60 m _ _ _ h))))))))))))))))))))))))))))))) (fun h => j_iconst dX11_feed_18 (j_iret rfl dX11_feed_19 h))))))))))
theorem MX11_feed {d : Nat} {x0 : Nat} {x1 : Int} {x2 : Int} {x3 : Int} {x4 : Int} {x5 : Int} {S : MS} {Q : Out → MS → Prop} (h : VX11_feed_0 d Q x0 x1 x2 x3 x4 x5 S) : Mw hX11_feed yX11_feed (d + 1) [vA x0, vI x1, vI x2, vI x3, vI x4, vI x5] S Q := Mw.ofJ (by decide) (Nat.le_of_ble_eq_true rfl) (JX11_feed_0 _ _ _ _ _ _ S h)
theorem dX11_end_0 : decode cX11_end 0 = .ok (.aload_n 0, 1) := by decide +kernel
theorem dX11_end_1 : decode cX11_end 1 = .ok (.iconst 0, 1) := by decide +kernel
theorem dX11_end_2 : decode cX11_end 2 = .ok (.putfield 3, 3) := by decide +kernel
theorem dX11_end_5 : decode cX11_end 5 = .ok (.iload_n 1, 1) := by decide +kernel
theorem dX11_end_6 : decode cX11_end 6 = .ok (.ifCond .lt 11, 3) := by decide +kernel
theorem dX11_end_9 : decode cX11_end 9 = .ok (.iload_n 1, 1) := by decide +kernel
theorem dX11_end_10 : decode cX11_end 10 = .ok (.aload_n 0, 1) := by decide +kernel
theorem dX11_end_11 : decode cX11_end 11 = .ok (.getfield 110, 3) := by decide +kernel
theorem dX11_end_14 : decode cX11_end 14 = .ok (.if_icmp .le 5, 3) := by decide +kernel
theorem dX11_end_17 : decode cX11_end 17 = .ok (.iconst 0, 1) := by decide +kernel
theorem dX11_end_18 : decode cX11_end 18 = .ok (.ireturn, 1) := by decide +kernel
theorem dX11_end_19 : decode cX11_end 19 = .ok (.aload_n 0, 1) := by decide +kernel
theorem dX11_end_20 : decode cX11_end 20 = .ok (.iload_n 1, 1) := by decide +kernel
theorem dX11_end_21 : decode cX11_end 21 = .ok (.putfield 110, 3) := by decide +kernel
theorem dX11_end_24 : decode cX11_end 24 = .ok (.iconst 1, 1) := by decide +kernel
theorem dX11_end_25 : decode cX11_end 25 = .ok (.ireturn, 1) := by decide +kernel
def VX11_end_0 (d : Nat) (Q : Out → MS → Prop) (x0 : Nat) (x1 : Int) (S : MS) : Prop :=
  S.K x0 = 11 ∧ (R32 x1 ∧ ((x1 < 0) → B01 0 ∧ Q (.inl (some (vI 0))) (S.setI x0 0 0)) ∧ (¬ (x1 < 0) → (S.setI x0 0 0).K x0 = 11 ∧ ((R32 x1 ∧ R32 ((S.setI x0 0 0).I x0 6)) ∧ ((x1 ≤ ((S.setI x0 0 0).I x0 6)) → (S.setI x0 0 0).K x0 = 11 ∧ (B01 1 ∧ Q (.inl (some (vI 1))) ((S.setI x0 0 0).setI x0 6 x1))) ∧ (¬ (x1 ≤ ((S.setI x0 0 0).I x0 6)) → B01 0 ∧ Q (.inl (some (vI 0))) (S.setI x0 0 0)))))
theorem JX11_end_0 {d : Nat} {S0 : MS} {Q : Out → MS → Prop} (x0 : Nat) (x1 : Int) (S : MS) (h : VX11_end_0 d Q x0 x1 S) : Jw FinM RX11 cX11_end 2 (some .boolean) [] yX11_end (d + 1) S0 S 0 [(0, vA x0), (1, vI x1)] [] Q :=
  j_aload_n 0 dX11_end_0 rfl (j_iconst dX11_end_1 (j_putI 11 0 f_RX11_3 dX11_end_2 h (fun h => j_iload_n 1 dX11_end_5 rfl (j_if_lt (tgt := 17) dX11_end_6 (by decide) h (fun h => j_iconst dX11_end_17 (j_zret rfl dX11_end_18 h)) (fun h => j_iload_n 1 dX11_end_9 rfl (j_aload_n 0 dX11_end_10 rfl (j_getI 11 6 f_RX11_110 dX11_end_11 h (fun h => j_icmp_le (tgt := 19) dX11_end_14 (by decide) h (fun h => j_aload_n 0 dX11_end_19 rfl (j_iload_n 1 dX11_end_20 rfl (j_putI 11 6 f_RX11_110 dX11_end_21 h (fun h => j_iconst dX11_end_24 (j_zret rfl dX11_end_25 h))))) (fun h => j_iconst dX11_end_17 (j_zret rfl dX11_end_18 h))))))))))
theorem MX11_end {d : Nat} {x0 : Nat} {x1 : Int} {S : MS} {Q : Out → MS → Prop} (h : VX11_end_0 d Q x0 x1 S) : Mw hX11_end yX11_end (d + 1) [vA x0, vI x1] S Q := Mw.ofJ (by decide) (Nat.le_of_ble_eq_true rfl) (JX11_end_0 _ _ S h)
theorem dX11_isAt_0 : decode cX11_isAt 0 = .ok (.aload_n 0, 1) := by decide +kernel
theorem dX11_isAt_1 : decode cX11_isAt 1 = .ok (.getfield 113, 3) := by decide +kernel
theorem dX11_isAt_4 : decode cX11_isAt 4 = .ok (.aload_n 0, 1) := by decide +kernel
theorem dX11_isAt_5 : decode cX11_isAt 5 = .ok (.getfield 116, 3) := by decide +kernel
theorem dX11_isAt_8 : decode cX11_isAt 8 = .ok (.if_icmp .ge 33, 3) := by decide +kernel
theorem dX11_isAt_11 : decode cX11_isAt 11 = .ok (.aload_n 0, 1) := by decide +kernel
theorem dX11_isAt_12 : decode cX11_isAt 12 = .ok (.getfield 23, 3) := by decide +kernel
theorem dX11_isAt_15 : decode cX11_isAt 15 = .ok (.aload_n 0, 1) := by decide +kernel
theorem dX11_isAt_16 : decode cX11_isAt 16 = .ok (.getfield 113, 3) := by decide +kernel
theorem dX11_isAt_19 : decode cX11_isAt 19 = .ok (.baload, 1) := by decide +kernel
theorem dX11_isAt_20 : decode cX11_isAt 20 = .ok (.iload_n 1, 1) := by decide +kernel
theorem dX11_isAt_21 : decode cX11_isAt 21 = .ok (.if_icmp .lt 20, 3) := by decide +kernel
theorem dX11_isAt_24 : decode cX11_isAt 24 = .ok (.aload_n 0, 1) := by decide +kernel
theorem dX11_isAt_25 : decode cX11_isAt 25 = .ok (.getfield 23, 3) := by decide +kernel
theorem dX11_isAt_28 : decode cX11_isAt 28 = .ok (.aload_n 0, 1) := by decide +kernel
theorem dX11_isAt_29 : decode cX11_isAt 29 = .ok (.getfield 113, 3) := by decide +kernel
theorem dX11_isAt_32 : decode cX11_isAt 32 = .ok (.baload, 1) := by decide +kernel
theorem dX11_isAt_33 : decode cX11_isAt 33 = .ok (.iload_n 2, 1) := by decide +kernel
theorem dX11_isAt_34 : decode cX11_isAt 34 = .ok (.if_icmp .gt 7, 3) := by decide +kernel
theorem dX11_isAt_37 : decode cX11_isAt 37 = .ok (.iconst 1, 1) := by decide +kernel
theorem dX11_isAt_38 : decode cX11_isAt 38 = .ok (.goto 4, 3) := by decide +kernel
theorem dX11_isAt_41 : decode cX11_isAt 41 = .ok (.iconst 0, 1) := by decide +kernel
theorem dX11_isAt_42 : decode cX11_isAt 42 = .ok (.ireturn, 1) := by decide +kernel
def VX11_isAt_0 (d : Nat) (Q : Out → MS → Prop) (x0 : Nat) (x1 : Int) (x2 : Int) (S : MS) : Prop :=
  S.K x0 = 11 ∧ (S.K x0 = 11 ∧ ((R32 (S.I x0 7) ∧ R32 (S.I x0 8)) ∧ (((S.I x0 8) ≤ (S.I x0 7)) → B01 0 ∧ Q (.inl (some (vI 0))) S) ∧ (¬ ((S.I x0 8) ≤ (S.I x0 7)) → S.K x0 = 11 ∧ ∃ b1, S.R x0 5 = some b1 ∧ (S.K x0 = 11 ∧ ((S.K b1 = 12 ∧ 0 ≤ (S.I x0 7) ∧ (S.I x0 7) < S.N b1) ∧ ((R32 (S.I b1 ((S.I x0 7)).toNat) ∧ R32 x1) ∧ (((S.I b1 ((S.I x0 7)).toNat) < x1) → B01 0 ∧ Q (.inl (some (vI 0))) S) ∧ (¬ ((S.I b1 ((S.I x0 7)).toNat) < x1) → S.K x0 = 11 ∧ ∃ b2, S.R x0 5 = some b2 ∧ (S.K x0 = 11 ∧ ((S.K b2 = 12 ∧ 0 ≤ (S.I x0 7) ∧ (S.I x0 7) < S.N b2) ∧ ((R32 (S.I b2 ((S.I x0 7)).toNat) ∧ R32 x2) ∧ ((x2 < (S.I b2 ((S.I x0 7)).toNat)) → B01 0 ∧ Q (.inl (some (vI 0))) S) ∧ (¬ (x2 < (S.I b2 ((S.I x0 7)).toNat)) → B01 1 ∧ Q (.inl (some (vI 1))) S)))))))))))
theorem JX11_isAt_0 {d : Nat} {S0 : MS} {Q : Out → MS → Prop} (x0 : Nat) (x1 : Int) (x2 : Int) (S : MS) (h : VX11_isAt_0 d Q x0 x1 x2 S) : Jw FinM RX11 cX11_isAt 3 (some .boolean) [] yX11_isAt (d + 1) S0 S 0 [(0, vA x0), (1, vI x1), (2, vI x2)] [] Q :=
  j_aload_n 0 dX11_isAt_0 rfl (j_getI 11 7 f_RX11_113 dX11_isAt_1 h (fun h => j_aload_n 0 dX11_isAt_4 rfl (j_getI 11 8 f_RX11_116 dX11_isAt_5 h (fun h => j_icmp_ge (tgt := 41) dX11_isAt_8 (by decide) h (fun h => j_iconst dX11_isAt_41 (j_zret rfl dX11_isAt_42 h)) (fun h => j_aload_n 0 dX11_isAt_11 rfl (j_getR 11 5 f_RX11_23 dX11_isAt_12 h (fun b1 h => j_aload_n 0 dX11_isAt_15 rfl (j_getI 11 7 f_RX11_113 dX11_isAt_16 h (fun h => j_bald dX11_isAt_19 h (fun h => j_iload_n 1 dX11_isAt_20 rfl (j_icmp_lt (tgt := 41) dX11_isAt_21 (by decide) h (fun h => j_iconst dX11_isAt_41 (j_zret rfl dX11_isAt_42 h)) (fun h => j_aload_n 0 dX11_isAt_24 rfl (j_getR 11 5 f_RX11_23 dX11_isAt_25 h (fun b2 h => j_aload_n 0 dX11_isAt_28 rfl (j_getI 11 7 f_RX11_113 dX11_isAt_29 h (fun h => j_bald dX11_isAt_32 h (fun h => j_iload_n 2 dX11_isAt_33 rfl (j_icmp_gt (tgt := 41) dX11_isAt_34 (by decide) h (fun h => j_iconst dX11_isAt_41 (j_zret rfl dX11_isAt_42 h)) (fun h => j_iconst dX11_isAt_37 (j_goto (tgt := 42) dX11_isAt_38 (by decide) (j_zret rfl dX11_isAt_42 h)))))))))))))))))))))
theorem MX11_isAt {d : Nat} {x0 : Nat} {x1 : Int} {x2 : Int} {S : MS} {Q : Out → MS → Prop} (h : VX11_isAt_0 d Q x0 x1 x2 S) : Mw hX11_isAt yX11_isAt (d + 1) [vA x0, vI x1, vI x2] S Q := Mw.ofJ (by decide) (Nat.le_of_ble_eq_true rfl) (JX11_isAt_0 _ _ _ S h)
theorem dX11_blanks_0 : decode cX11_blanks 0 = .ok (.aload_n 0, 1) := by decide +kernel
theorem dX11_blanks_1 : decode cX11_blanks 1 = .ok (.bipush 32, 2) := by decide +kernel
theorem dX11_blanks_3 : decode cX11_blanks 3 = .ok (.bipush 32, 2) := by decide +kernel
theorem dX11_blanks_5 : decode cX11_blanks 5 = .ok (.invokevirtual 119, 3) := by decide +kernel
theorem dX11_blanks_8 : decode cX11_blanks 8 = .ok (.ifCond .eq 16, 3) := by decide +kernel
theorem dX11_blanks_11 : decode cX11_blanks 11 = .ok (.aload_n 0, 1) := by decide +kernel
theorem dX11_blanks_12 : decode cX11_blanks 12 = .ok (.dup, 1) := by decide +kernel
theorem dX11_blanks_13 : decode cX11_blanks 13 = .ok (.getfield 113, 3) := by decide +kernel
theorem dX11_blanks_16 : decode cX11_blanks 16 = .ok (.iconst 1, 1) := by decide +kernel
theorem dX11_blanks_17 : decode cX11_blanks 17 = .ok (.iadd, 1) := by decide +kernel
theorem dX11_blanks_18 : decode cX11_blanks 18 = .ok (.putfield 113, 3) := by decide +kernel
theorem dX11_blanks_21 : decode cX11_blanks 21 = .ok (.goto (-21), 3) := by decide +kernel
theorem dX11_blanks_24 : decode cX11_blanks 24 = .ok (.aload_n 0, 1) := by decide +kernel
theorem dX11_blanks_25 : decode cX11_blanks 25 = .ok (.aload_n 0, 1) := by decide +kernel
theorem dX11_blanks_26 : decode cX11_blanks 26 = .ok (.getfield 113, 3) := by decide +kernel
theorem dX11_blanks_29 : decode cX11_blanks 29 = .ok (.putfield 123, 3) := by decide +kernel
theorem dX11_blanks_32 : decode cX11_blanks 32 = .ok (.return_, 1) := by decide +kernel
def VX11_blanks_0 (d : Nat) (Q : Out → MS → Prop) : Nat → Nat → MS → Prop
  | 0, _, _ => False
  | n + 1, x0, S => S.K x0 = 11 ∧ Mw hX11_isAt yX11_isAt d [vA x0, vI 32, vI 32] S (oI (fun r1 S1 => R32 r1 ∧ ((r1 = 0) → S1.K x0 = 11 ∧ (S1.K x0 = 11 ∧ (Q (.inl none) (S1.setI x0 9 (S1.I x0 7))))) ∧ (¬ (r1 = 0) → S1.K x0 = 11 ∧ (S1.K x0 = 11 ∧ ((VX11_blanks_0 d Q n) x0 (S1.setI x0 7 ((S1.I x0 7) + 1)))))))
theorem JX11_blanks_0 {d : Nat} {S0 : MS} {Q : Out → MS → Prop} : ∀ (n : Nat) (x0 : Nat) (S : MS), VX11_blanks_0 d Q n x0 S → Jw FinM RX11 cX11_blanks 1 none [] yX11_blanks (d + 1) S0 S 0 [(0, vA x0)] [] Q := by
  intro n
  induction n with
  | zero => intro x0 S h; exact h.elim
  | succ n ih =>
    intro x0 S h
    exact j_aload_n 0 dX11_blanks_0 rfl (j_bipush dX11_blanks_1 rfl (j_bipush dX11_blanks_3 rfl (j_callV (rest := []) 11 [vI 32, vI 32] k_RX11_119 ⟨w_7_139, p_3_14⟩ ⟨_, _, rfl⟩ (by decide) rfl rfl (Nat.le_of_ble_eq_true rfl) dX11_blanks_5 h (kI (fun r1 S1 h => j_if_eq (tgt := 24) dX11_blanks_8 (by decide) h (fun h => j_aload_n 0 dX11_blanks_24 rfl (j_aload_n 0 dX11_blanks_25 rfl (j_getI 11 7 f_RX11_113 dX11_blanks_26 h (fun h => j_putI 11 9 f_RX11_123 dX11_blanks_29 h (fun h => j_vret rfl dX11_blanks_32 h))))) (fun h => j_aload_n 0 dX11_blanks_11 rfl (j_dup rfl dX11_blanks_12 (j_getI 11 7 f_RX11_113 dX11_blanks_13 h (fun h => j_iconst dX11_blanks_16 (j_iadd dX11_blanks_17 (j_putI 11 7 f_RX11_113 dX11_blanks_18 h (fun h => j_goto (tgt := 0) dX11_blanks_21 (by decide) (ih _ _ h)))))))))) (fun _ _ h => h.elim))))
theorem dX11_letters_0 : decode cX11_letters 0 = .ok (.aload_n 0, 1) := by decide +kernel
theorem dX11_letters_1 : decode cX11_letters 1 = .ok (.invokevirtual 126, 3) := by decide +kernel
theorem dX11_letters_4 : decode cX11_letters 4 = .ok (.aload_n 0, 1) := by decide +kernel
theorem dX11_letters_5 : decode cX11_letters 5 = .ok (.bipush 97, 2) := by decide +kernel
theorem dX11_letters_7 : decode cX11_letters 7 = .ok (.bipush 122, 2) := by decide +kernel
theorem dX11_letters_9 : decode cX11_letters 9 = .ok (.invokevirtual 119, 3) := by decide +kernel
theorem dX11_letters_12 : decode cX11_letters 12 = .ok (.ifCond .eq 16, 3) := by decide +kernel
theorem dX11_letters_15 : decode cX11_letters 15 = .ok (.aload_n 0, 1) := by decide +kernel
theorem dX11_letters_16 : decode cX11_letters 16 = .ok (.dup, 1) := by decide +kernel
theorem dX11_letters_17 : decode cX11_letters 17 = .ok (.getfield 113, 3) := by decide +kernel
theorem dX11_letters_20 : decode cX11_letters 20 = .ok (.iconst 1, 1) := by decide +kernel
theorem dX11_letters_21 : decode cX11_letters 21 = .ok (.iadd, 1) := by decide +kernel
theorem dX11_letters_22 : decode cX11_letters 22 = .ok (.putfield 113, 3) := by decide +kernel
theorem dX11_letters_25 : decode cX11_letters 25 = .ok (.goto (-21), 3) := by decide +kernel
theorem dX11_letters_28 : decode cX11_letters 28 = .ok (.return_, 1) := by decide +kernel
def VX11_letters_4 (d : Nat) (Q : Out → MS → Prop) : Nat → Nat → MS → Prop
  | 0, _, _ => False
  | n + 1, x0, S => S.K x0 = 11 ∧ Mw hX11_isAt yX11_isAt d [vA x0, vI 97, vI 122] S (oI (fun r1 S1 => R32 r1 ∧ ((r1 = 0) → Q (.inl none) S1) ∧ (¬ (r1 = 0) → S1.K x0 = 11 ∧ (S1.K x0 = 11 ∧ ((VX11_letters_4 d Q n) x0 (S1.setI x0 7 ((S1.I x0 7) + 1)))))))
theorem JX11_letters_4 {d : Nat} {S0 : MS} {Q : Out → MS → Prop} : ∀ (n : Nat) (x0 : Nat) (S : MS), VX11_letters_4 d Q n x0 S → Jw FinM RX11 cX11_letters 1 none [] yX11_letters (d + 1) S0 S 4 [(0, vA x0)] [] Q := by
  intro n
  induction n with
  | zero => intro x0 S h; exact h.elim
  | succ n ih =>
    intro x0 S h
    exact j_aload_n 0 dX11_letters_4 rfl (j_bipush dX11_letters_5 rfl (j_bipush dX11_letters_7 rfl (j_callV (rest := []) 11 [vI 97, vI 122] k_RX11_119 ⟨w_7_139, p_3_14⟩ ⟨_, _, rfl⟩ (by decide) rfl rfl (Nat.le_of_ble_eq_true rfl) dX11_letters_9 h (kI (fun r1 S1 h => j_if_eq (tgt := 28) dX11_letters_12 (by decide) h (fun h => j_vret rfl dX11_letters_28 h) (fun h => j_aload_n 0 dX11_letters_15 rfl (j_dup rfl dX11_letters_16 (j_getI 11 7 f_RX11_113 dX11_letters_17 h (fun h => j_iconst dX11_letters_20 (j_iadd dX11_letters_21 (j_putI 11 7 f_RX11_113 dX11_letters_22 h (fun h => j_goto (tgt := 4) dX11_letters_25 (by decide) (ih _ _ h)))))))))) (fun _ _ h => h.elim))))
def VX11_letters_0 (d : Nat) (Q : Out → MS → Prop) (x0 : Nat) (S : MS) : Prop :=
  S.K x0 = 11 ∧ Mw hX11_blanks yX11_blanks d [vA x0] S (oV (fun S1 => ∃ m, VX11_letters_4 d Q m x0 S1))
theorem JX11_letters_0 {d : Nat} {S0 : MS} {Q : Out → MS → Prop} (x0 : Nat) (S : MS) (h : VX11_letters_0 d Q x0 S) : Jw FinM RX11 cX11_letters 1 none [] yX11_letters (d + 1) S0 S 0 [(0, vA x0)] [] Q :=
  j_aload_n 0 dX11_letters_0 rfl (j_callV (rest := []) 11 [] k_RX11_126 ⟨w_7_135, p_3_13⟩ ⟨_, _, rfl⟩ (by decide) rfl rfl (Nat.le_of_ble_eq_true rfl) dX11_letters_1 h (kV (fun S1 h => Exists.elim h (fun m h => JX11_letters_4 m _ _ h))) (fun _ _ h => h.elim))
theorem MX11_letters {d : Nat} {x0 : Nat} {S : MS} {Q : Out → MS → Prop} (h : VX11_letters_0 d Q x0 S) : Mw hX11_letters yX11_letters (d + 1) [vA x0] S Q := Mw.ofJ (by decide) (Nat.le_of_ble_eq_true rfl) (JX11_letters_0 _ S h)
theorem dX11_isWord_0 : decode cX11_isWord 0 = .ok (.aload_n 0, 1) := by decide +kernel
theorem dX11_isWord_1 : decode cX11_isWord 1 = .ok (.getfield 113, 3) := by decide +kernel
theorem dX11_isWord_4 : decode cX11_isWord 4 = .ok (.aload_n 0, 1) := by decide +kernel
theorem dX11_isWord_5 : decode cX11_isWord 5 = .ok (.getfield 123, 3) := by decide +kernel
theorem dX11_isWord_8 : decode cX11_isWord 8 = .ok (.isub, 1) := by decide +kernel
theorem dX11_isWord_9 : decode cX11_isWord 9 = .ok (.aload_n 1, 1) := by decide +kernel
theorem dX11_isWord_10 : decode cX11_isWord 10 = .ok (.invokevirtual 129, 3) := by decide +kernel
theorem dX11_isWord_13 : decode cX11_isWord 13 = .ok (.if_icmp .ne 7, 3) := by decide +kernel
theorem dX11_isWord_16 : decode cX11_isWord 16 = .ok (.iconst 1, 1) := by decide +kernel
theorem dX11_isWord_17 : decode cX11_isWord 17 = .ok (.goto 4, 3) := by decide +kernel
theorem dX11_isWord_20 : decode cX11_isWord 20 = .ok (.iconst 0, 1) := by decide +kernel
theorem dX11_isWord_21 : decode cX11_isWord 21 = .ok (.istore_n 2, 1) := by decide +kernel
theorem dX11_isWord_22 : decode cX11_isWord 22 = .ok (.iconst 0, 1) := by decide +kernel
theorem dX11_isWord_23 : decode cX11_isWord 23 = .ok (.istore_n 3, 1) := by decide +kernel
theorem dX11_isWord_24 : decode cX11_isWord 24 = .ok (.iload_n 2, 1) := by decide +kernel
theorem dX11_isWord_25 : decode cX11_isWord 25 = .ok (.ifCond .eq 42, 3) := by decide +kernel
theorem dX11_isWord_28 : decode cX11_isWord 28 = .ok (.iload_n 3, 1) := by decide +kernel
theorem dX11_isWord_29 : decode cX11_isWord 29 = .ok (.aload_n 1, 1) := by decide +kernel
theorem dX11_isWord_30 : decode cX11_isWord 30 = .ok (.invokevirtual 129, 3) := by decide +kernel
theorem dX11_isWord_33 : decode cX11_isWord 33 = .ok (.if_icmp .ge 34, 3) := by decide +kernel
theorem dX11_isWord_36 : decode cX11_isWord 36 = .ok (.aload_n 0, 1) := by decide +kernel
theorem dX11_isWord_37 : decode cX11_isWord 37 = .ok (.getfield 23, 3) := by decide +kernel
theorem dX11_isWord_40 : decode cX11_isWord 40 = .ok (.aload_n 0, 1) := by decide +kernel
theorem dX11_isWord_41 : decode cX11_isWord 41 = .ok (.getfield 123, 3) := by decide +kernel
theorem dX11_isWord_44 : decode cX11_isWord 44 = .ok (.iload_n 3, 1) := by decide +kernel
theorem dX11_isWord_45 : decode cX11_isWord 45 = .ok (.iadd, 1) := by decide +kernel
theorem dX11_isWord_46 : decode cX11_isWord 46 = .ok (.baload, 1) := by decide +kernel
theorem dX11_isWord_47 : decode cX11_isWord 47 = .ok (.aload_n 1, 1) := by decide +kernel
theorem dX11_isWord_48 : decode cX11_isWord 48 = .ok (.iload_n 3, 1) := by decide +kernel
theorem dX11_isWord_49 : decode cX11_isWord 49 = .ok (.invokevirtual 134, 3) := by decide +kernel
theorem dX11_isWord_52 : decode cX11_isWord 52 = .ok (.if_icmp .ne 7, 3) := by decide +kernel
theorem dX11_isWord_55 : decode cX11_isWord 55 = .ok (.iconst 1, 1) := by decide +kernel
theorem dX11_isWord_56 : decode cX11_isWord 56 = .ok (.goto 4, 3) := by decide +kernel
theorem dX11_isWord_59 : decode cX11_isWord 59 = .ok (.iconst 0, 1) := by decide +kernel
theorem dX11_isWord_60 : decode cX11_isWord 60 = .ok (.istore_n 2, 1) := by decide +kernel
theorem dX11_isWord_61 : decode cX11_isWord 61 = .ok (.iinc 3 1, 3) := by decide +kernel
theorem dX11_isWord_64 : decode cX11_isWord 64 = .ok (.goto (-40), 3) := by decide +kernel
theorem dX11_isWord_67 : decode cX11_isWord 67 = .ok (.iload_n 2, 1) := by decide +kernel
theorem dX11_isWord_68 : decode cX11_isWord 68 = .ok (.ireturn, 1) := by decide +kernel
def VX11_isWord_60 (d : Nat) (c24 : Nat → Nat → Int → Int → MS → Prop) (Q : Out → MS → Prop) (x0 : Nat) (x1 : Nat) (x3 : Int) (t0 : Int) (S : MS) : Prop :=
  c24 x0 x1 t0 (x3 + 1) S
theorem JX11_isWord_60 {d : Nat} {c24 : Nat → Nat → Int → Int → MS → Prop} {S0 : MS} {Q : Out → MS → Prop} (hc24 : ∀ (x0 : Nat) (x1 : Nat) (x2 : Int) (x3 : Int) (S : MS), c24 x0 x1 x2 x3 S → Jw FinM RX11 cX11_isWord 4 (some .boolean) [] yX11_isWord (d + 1) S0 S 24 [(0, vA x0), (1, vA x1), (2, vI x2), (3, vI x3)] [] Q) (x0 : Nat) (x1 : Nat) (x3 : Int) (t0 : Int) (S : MS) (h : VX11_isWord_60 d c24 Q x0 x1 x3 t0 S) : Jw FinM RX11 cX11_isWord 4 (some .boolean) [] yX11_isWord (d + 1) S0 S 60 [(0, vA x0), (1, vA x1), (3, vI x3)] [vI t0] Q :=
  j_istore_n (lv2 := [(2, vI t0), (0, vA x0), (1, vA x1), (3, vI x3)]) dX11_isWord_60 (by decide) rfl (j_iinc 3 (lv2 := [(3, vI (x3 + 1)), (2, vI t0), (0, vA x0), (1, vA x1)]) dX11_isWord_61 rfl (by decide) rfl (j_goto (tgt := 24) dX11_isWord_64 (by decide) (j_sub [2, 3, 1, 0] rfl (hc24 _ _ _ _ _ h))))
def VX11_isWord_67 (d : Nat) (Q : Out → MS → Prop) (x2 : Int) (S : MS) : Prop :=
  B01 x2 ∧ Q (.inl (some (vI x2))) S
theorem JX11_isWord_67 {d : Nat} {S0 : MS} {Q : Out → MS → Prop} (x2 : Int) (S : MS) (h : VX11_isWord_67 d Q x2 S) : Jw FinM RX11 cX11_isWord 4 (some .boolean) [] yX11_isWord (d + 1) S0 S 67 [(2, vI x2)] [] Q :=
  j_iload_n 0 dX11_isWord_67 rfl (j_zret rfl dX11_isWord_68 h)
def VX11_isWord_24 (d : Nat) (Q : Out → MS → Prop) : Nat → Nat → Nat → Int → Int → MS → Prop
  | 0, _, _, _, _, _ => False
  | n + 1, x0, x1, x2, x3, S => R32 x2 ∧ ((x2 = 0) → VX11_isWord_67 d Q x2 S) ∧ (¬ (x2 = 0) → (∃ i, i < 8 ∧ x1 = S.T i) ∧ Mw hJ0_length_8abf5 yJ0_length_8abf5 d [vA x1] S (oI (fun r1 S1 => (R32 x3 ∧ R32 r1) ∧ ((r1 ≤ x3) → VX11_isWord_67 d Q x2 S1) ∧ (¬ (r1 ≤ x3) → S1.K x0 = 11 ∧ ∃ b2, S1.R x0 5 = some b2 ∧ (S1.K x0 = 11 ∧ ((S1.K b2 = 12 ∧ 0 ≤ ((S1.I x0 9) + x3) ∧ ((S1.I x0 9) + x3) < S1.N b2) ∧ ((∃ i, i < 8 ∧ x1 = S1.T i) ∧ Mw hJ0_charAt_5068e yJ0_charAt_5068e d [vA x1, vI x3] S1 (oI (fun r3 S3 => (R32 (S1.I b2 (((S1.I x0 9) + x3)).toNat) ∧ R32 r3) ∧ (¬ ((S1.I b2 (((S1.I x0 9) + x3)).toNat) = r3) → VX11_isWord_60 d (VX11_isWord_24 d Q n) Q x0 x1 x3 0 S3) ∧ (((S1.I b2 (((S1.I x0 9) + x3)).toNat) = r3) → VX11_isWord_60 d (VX11_isWord_24 d Q n) Q x0 x1 x3 1 S3))))))))))
theorem JX11_isWord_24 {d : Nat} {S0 : MS} {Q : Out → MS → Prop} : ∀ (n : Nat) (x0 : Nat) (x1 : Nat) (x2 : Int) (x3 : Int) (S : MS), VX11_isWord_24 d Q n x0 x1 x2 x3 S → Jw FinM RX11 cX11_isWord 4 (some .boolean) [] yX11_isWord (d + 1) S0 S 24 [(0, vA x0), (1, vA x1), (2, vI x2), (3, vI x3)] [] Q := by
  intro n
  induction n with
  | zero => intro x0 x1 x2 x3 S h; exact h.elim
  | succ n ih =>
    intro x0 x1 x2 x3 S h
    exact j_iload_n 2 dX11_isWord_24 rfl (j_if_eq (tgt := 67) dX11_isWord_25 (by decide) h (fun h => j_sub [2] rfl (JX11_isWord_67 _ _ h)) (fun h => j_iload_n 3 dX11_isWord_28 rfl (j_aload_n 1 dX11_isWord_29 rfl (j_callT (rest := [vI x3]) [] k_RX11_129 ⟨w_4_68, w_4_69⟩ rfl rfl rfl (Nat.le_of_ble_eq_true rfl) dX11_isWord_30 h (kI (fun r1 S1 h => j_icmp_ge (tgt := 67) dX11_isWord_33 (by decide) h (fun h => j_sub [2] rfl (JX11_isWord_67 _ _ h)) (fun h => j_aload_n 0 dX11_isWord_36 rfl (j_getR 11 5 f_RX11_23 dX11_isWord_37 h (fun b2 h => j_aload_n 0 dX11_isWord_40 rfl (j_getI 11 9 f_RX11_123 dX11_isWord_41 h (fun h => j_iload_n 3 dX11_isWord_44 rfl (j_iadd dX11_isWord_45 (j_bald dX11_isWord_46 h (fun h => j_aload_n 1 dX11_isWord_47 rfl (j_iload_n 3 dX11_isWord_48 rfl (j_callT (rest := [vI (S1.I b2 (((S1.I x0 9) + x3)).toNat)]) [vI x3] k_RX11_134 ⟨w_4_78, w_4_79⟩ rfl rfl rfl (Nat.le_of_ble_eq_true rfl) dX11_isWord_49 h (kI (fun r3 S3 h => j_icmp_ne (tgt := 59) dX11_isWord_52 (by decide) h (fun h => j_iconst dX11_isWord_59 (j_sub [0, 1, 3] rfl (JX11_isWord_60 ih _ _ _ _ _ h))) (fun h => j_iconst dX11_isWord_55 (j_goto (tgt := 60) dX11_isWord_56 (by decide) (j_sub [0, 1, 3] rfl (JX11_isWord_60 ih _ _ _ _ _ h))))))))))))))))))))))
def VX11_isWord_21 (d : Nat) (Q : Out → MS → Prop) (x0 : Nat) (x1 : Nat) (t0 : Int) (S : MS) : Prop :=
  ∃ m, VX11_isWord_24 d Q m x0 x1 t0 0 S
theorem JX11_isWord_21 {d : Nat} {S0 : MS} {Q : Out → MS → Prop} (x0 : Nat) (x1 : Nat) (t0 : Int) (S : MS) (h : VX11_isWord_21 d Q x0 x1 t0 S) : Jw FinM RX11 cX11_isWord 4 (some .boolean) [] yX11_isWord (d + 1) S0 S 21 [(0, vA x0), (1, vA x1)] [vI t0] Q :=
  j_istore_n (lv2 := [(2, vI t0), (0, vA x0), (1, vA x1)]) dX11_isWord_21 (by decide) rfl (j_iconst dX11_isWord_22 (j_istore_n (lv2 := [(3, vI 0), (2, vI t0), (0, vA x0), (1, vA x1)]) dX11_isWord_23 (by decide) rfl (Exists.elim h (fun m h => j_sub [2, 3, 1, 0] rfl (JX11_isWord_24 m _ _ _ _ _ h)))))
def VX11_isWord_0 (d : Nat) (Q : Out → MS → Prop) (x0 : Nat) (x1 : Nat) (S : MS) : Prop :=
  S.K x0 = 11 ∧ (S.K x0 = 11 ∧ ((∃ i, i < 8 ∧ x1 = S.T i) ∧ Mw hJ0_length_8abf5 yJ0_length_8abf5 d [vA x1] S (oI (fun r1 S1 => (R32 ((S.I x0 7) - (S.I x0 9)) ∧ R32 r1) ∧ (¬ (((S.I x0 7) - (S.I x0 9)) = r1) → VX11_isWord_21 d Q x0 x1 0 S1) ∧ ((((S.I x0 7) - (S.I x0 9)) = r1) → VX11_isWord_21 d Q x0 x1 1 S1)))))
theorem JX11_isWord_0 {d : Nat} {S0 : MS} {Q : Out → MS → Prop} (x0 : Nat) (x1 : Nat) (S : MS) (h : VX11_isWord_0 d Q x0 x1 S) : Jw FinM RX11 cX11_isWord 4 (some .boolean) [] yX11_isWord (d + 1) S0 S 0 [(0, vA x0), (1, vA x1)] [] Q :=
  j_aload_n 0 dX11_isWord_0 rfl (j_getI 11 7 f_RX11_113 dX11_isWord_1 h (fun h => j_aload_n 0 dX11_isWord_4 rfl (j_getI 11 9 f_RX11_123 dX11_isWord_5 h (fun h => j_isub dX11_isWord_8 (j_aload_n 1 dX11_isWord_9 rfl (j_callT (rest := [vI ((S.I x0 7) - (S.I x0 9))]) [] k_RX11_129 ⟨w_4_68, w_4_69⟩ rfl rfl rfl (Nat.le_of_ble_eq_true rfl) dX11_isWord_10 h (kI (fun r1 S1 h => j_icmp_ne (tgt := 20) dX11_isWord_13 (by decide) h (fun h => j_iconst dX11_isWord_20 (JX11_isWord_21 _ _ _ _ h)) (fun h => j_iconst dX11_isWord_16 (j_goto (tgt := 21) dX11_isWord_17 (by decide) (JX11_isWord_21 _ _ _ _ h)))))))))))
theorem MX11_isWord {d : Nat} {x0 : Nat} {x1 : Nat} {S : MS} {Q : Out → MS → Prop} (h : VX11_isWord_0 d Q x0 x1 S) : Mw hX11_isWord yX11_isWord (d + 1) [vA x0, vA x1] S Q := Mw.ofJ (by decide) (Nat.le_of_ble_eq_true rfl) (JX11_isWord_0 _ _ S h)
theorem dX11_number_0 : decode cX11_number 0 = .ok (.aload_n 0, 1) := by decide +kernel
theorem dX11_number_1 : decode cX11_number 1 = .ok (.invokevirtual 126, 3) := by decide +kernel
theorem dX11_number_4 : decode cX11_number 4 = .ok (.iconst 0, 1) := by decide +kernel
theorem dX11_number_5 : decode cX11_number 5 = .ok (.istore_n 3, 1) := by decide +kernel
theorem dX11_number_6 : decode cX11_number 6 = .ok (.aload_n 0, 1) := by decide +kernel
theorem dX11_number_7 : decode cX11_number 7 = .ok (.bipush 48, 2) := by decide +kernel
theorem dX11_number_9 : decode cX11_number 9 = .ok (.bipush 57, 2) := by decide +kernel
theorem dX11_number_11 : decode cX11_number 11 = .ok (.invokevirtual 119, 3) := by decide +kernel
theorem dX11_number_14 : decode cX11_number 14 = .ok (.ifCond .eq 51, 3) := by decide +kernel
theorem dX11_number_17 : decode cX11_number 17 = .ok (.aload_n 0, 1) := by decide +kernel
theorem dX11_number_18 : decode cX11_number 18 = .ok (.getfield 113, 3) := by decide +kernel
theorem dX11_number_21 : decode cX11_number 21 = .ok (.aload_n 0, 1) := by decide +kernel
theorem dX11_number_22 : decode cX11_number 22 = .ok (.getfield 123, 3) := by decide +kernel
theorem dX11_number_25 : decode cX11_number 25 = .ok (.isub, 1) := by decide +kernel
theorem dX11_number_26 : decode cX11_number 26 = .ok (.iconst 3, 1) := by decide +kernel
theorem dX11_number_27 : decode cX11_number 27 = .ok (.if_icmp .ge 23, 3) := by decide +kernel
theorem dX11_number_30 : decode cX11_number 30 = .ok (.bipush 10, 2) := by decide +kernel
theorem dX11_number_32 : decode cX11_number 32 = .ok (.iload_n 3, 1) := by decide +kernel
theorem dX11_number_33 : decode cX11_number 33 = .ok (.imul, 1) := by decide +kernel
theorem dX11_number_34 : decode cX11_number 34 = .ok (.aload_n 0, 1) := by decide +kernel
theorem dX11_number_35 : decode cX11_number 35 = .ok (.getfield 23, 3) := by decide +kernel
theorem dX11_number_38 : decode cX11_number 38 = .ok (.aload_n 0, 1) := by decide +kernel
theorem dX11_number_39 : decode cX11_number 39 = .ok (.getfield 113, 3) := by decide +kernel
theorem dX11_number_42 : decode cX11_number 42 = .ok (.baload, 1) := by decide +kernel
theorem dX11_number_43 : decode cX11_number 43 = .ok (.iadd, 1) := by decide +kernel
theorem dX11_number_44 : decode cX11_number 44 = .ok (.bipush 48, 2) := by decide +kernel
theorem dX11_number_46 : decode cX11_number 46 = .ok (.isub, 1) := by decide +kernel
theorem dX11_number_47 : decode cX11_number 47 = .ok (.goto 4, 3) := by decide +kernel
theorem dX11_number_50 : decode cX11_number 50 = .ok (.iload_n 3, 1) := by decide +kernel
theorem dX11_number_51 : decode cX11_number 51 = .ok (.istore_n 3, 1) := by decide +kernel
theorem dX11_number_52 : decode cX11_number 52 = .ok (.aload_n 0, 1) := by decide +kernel
theorem dX11_number_53 : decode cX11_number 53 = .ok (.dup, 1) := by decide +kernel
theorem dX11_number_54 : decode cX11_number 54 = .ok (.getfield 113, 3) := by decide +kernel
theorem dX11_number_57 : decode cX11_number 57 = .ok (.iconst 1, 1) := by decide +kernel
theorem dX11_number_58 : decode cX11_number 58 = .ok (.iadd, 1) := by decide +kernel
theorem dX11_number_59 : decode cX11_number 59 = .ok (.putfield 113, 3) := by decide +kernel
theorem dX11_number_62 : decode cX11_number 62 = .ok (.goto (-56), 3) := by decide +kernel
theorem dX11_number_65 : decode cX11_number 65 = .ok (.aload_n 0, 1) := by decide +kernel
theorem dX11_number_66 : decode cX11_number 66 = .ok (.getfield 113, 3) := by decide +kernel
theorem dX11_number_69 : decode cX11_number 69 = .ok (.aload_n 0, 1) := by decide +kernel
theorem dX11_number_70 : decode cX11_number 70 = .ok (.getfield 123, 3) := by decide +kernel
theorem dX11_number_73 : decode cX11_number 73 = .ok (.if_icmp .eq 26, 3) := by decide +kernel
theorem dX11_number_76 : decode cX11_number 76 = .ok (.aload_n 0, 1) := by decide +kernel
theorem dX11_number_77 : decode cX11_number 77 = .ok (.getfield 113, 3) := by decide +kernel
theorem dX11_number_80 : decode cX11_number 80 = .ok (.aload_n 0, 1) := by decide +kernel
theorem dX11_number_81 : decode cX11_number 81 = .ok (.getfield 123, 3) := by decide +kernel
theorem dX11_number_84 : decode cX11_number 84 = .ok (.isub, 1) := by decide +kernel
theorem dX11_number_85 : decode cX11_number 85 = .ok (.iconst 3, 1) := by decide +kernel
theorem dX11_number_86 : decode cX11_number 86 = .ok (.if_icmp .gt 13, 3) := by decide +kernel
theorem dX11_number_89 : decode cX11_number 89 = .ok (.iload_n 3, 1) := by decide +kernel
theorem dX11_number_90 : decode cX11_number 90 = .ok (.iload_n 1, 1) := by decide +kernel
theorem dX11_number_91 : decode cX11_number 91 = .ok (.if_icmp .lt 8, 3) := by decide +kernel
theorem dX11_number_94 : decode cX11_number 94 = .ok (.iload_n 3, 1) := by decide +kernel
theorem dX11_number_95 : decode cX11_number 95 = .ok (.iload_n 2, 1) := by decide +kernel
theorem dX11_number_96 : decode cX11_number 96 = .ok (.if_icmp .le 7, 3) := by decide +kernel
theorem dX11_number_99 : decode cX11_number 99 = .ok (.iconst (-1), 1) := by decide +kernel
theorem dX11_number_100 : decode cX11_number 100 = .ok (.goto 4, 3) := by decide +kernel
theorem dX11_number_103 : decode cX11_number 103 = .ok (.iload_n 3, 1) := by decide +kernel
theorem dX11_number_104 : decode cX11_number 104 = .ok (.ireturn, 1) := by decide +kernel
def VX11_number_51 (d : Nat) (c6 : Nat → Int → Int → Int → MS → Prop) (Q : Out → MS → Prop) (x0 : Nat) (x1 : Int) (x2 : Int) (t0 : Int) (S : MS) : Prop :=
  S.K x0 = 11 ∧ (S.K x0 = 11 ∧ (c6 x0 x1 x2 t0 (S.setI x0 7 ((S.I x0 7) + 1))))
theorem JX11_number_51 {d : Nat} {c6 : Nat → Int → Int → Int → MS → Prop} {S0 : MS} {Q : Out → MS → Prop} (hc6 : ∀ (x0 : Nat) (x1 : Int) (x2 : Int) (x3 : Int) (S : MS), c6 x0 x1 x2 x3 S → Jw FinM RX11 cX11_number 4 (some .int) [] yX11_number (d + 1) S0 S 6 [(0, vA x0), (1, vI x1), (2, vI x2), (3, vI x3)] [] Q) (x0 : Nat) (x1 : Int) (x2 : Int) (t0 : Int) (S : MS) (h : VX11_number_51 d c6 Q x0 x1 x2 t0 S) : Jw FinM RX11 cX11_number 4 (some .int) [] yX11_number (d + 1) S0 S 51 [(0, vA x0), (1, vI x1), (2, vI x2)] [vI t0] Q :=
  j_istore_n (lv2 := [(3, vI t0), (0, vA x0), (1, vI x1), (2, vI x2)]) dX11_number_51 (by decide) rfl (j_aload_n 1 dX11_number_52 rfl (j_dup rfl dX11_number_53 (j_getI 11 7 f_RX11_113 dX11_number_54 h (fun h => j_iconst dX11_number_57 (j_iadd dX11_number_58 (j_putI 11 7 f_RX11_113 dX11_number_59 h (fun h => j_goto (tgt := 6) dX11_number_62 (by decide) (j_sub [1, 2, 3, 0] rfl (hc6 _ _ _ _ _ h)))))))))
def VX11_number_99 (d : Nat) (Q : Out → MS → Prop) (S : MS) : Prop :=
  Q (.inl (some (vI ((-1))))) S
theorem JX11_number_99 {d : Nat} {S0 : MS} {Q : Out → MS → Prop} (S : MS) (h : VX11_number_99 d Q S) : Jw FinM RX11 cX11_number 4 (some .int) [] yX11_number (d + 1) S0 S 99 [] [] Q :=
  j_iconst dX11_number_99 (j_goto (tgt := 104) dX11_number_100 (by decide) (j_iret rfl dX11_number_104 h))
def VX11_number_6 (d : Nat) (Q : Out → MS → Prop) : Nat → Nat → Int → Int → Int → MS → Prop
  | 0, _, _, _, _, _ => False
  | n + 1, x0, x1, x2, x3, S => S.K x0 = 11 ∧ Mw hX11_isAt yX11_isAt d [vA x0, vI 48, vI 57] S (oI (fun r1 S1 => R32 r1 ∧ ((r1 = 0) → S1.K x0 = 11 ∧ (S1.K x0 = 11 ∧ ((R32 (S1.I x0 7) ∧ R32 (S1.I x0 9)) ∧ (((S1.I x0 7) = (S1.I x0 9)) → VX11_number_99 d Q S1) ∧ (¬ ((S1.I x0 7) = (S1.I x0 9)) → S1.K x0 = 11 ∧ (S1.K x0 = 11 ∧ ((R32 ((S1.I x0 7) - (S1.I x0 9)) ∧ R32 (3 : Int)) ∧ (((3 : Int) < ((S1.I x0 7) - (S1.I x0 9))) → VX11_number_99 d Q S1) ∧ (¬ ((3 : Int) < ((S1.I x0 7) - (S1.I x0 9))) → (R32 x3 ∧ R32 x1) ∧ ((x3 < x1) → VX11_number_99 d Q S1) ∧ (¬ (x3 < x1) → (R32 x3 ∧ R32 x2) ∧ ((x3 ≤ x2) → Q (.inl (some (vI x3))) S1) ∧ (¬ (x3 ≤ x2) → VX11_number_99 d Q S1))))))))) ∧ (¬ (r1 = 0) → S1.K x0 = 11 ∧ (S1.K x0 = 11 ∧ ((R32 ((S1.I x0 7) - (S1.I x0 9)) ∧ R32 (3 : Int)) ∧ (((3 : Int) ≤ ((S1.I x0 7) - (S1.I x0 9))) → VX11_number_51 d (VX11_number_6 d Q n) Q x0 x1 x2 x3 S1) ∧ (¬ ((3 : Int) ≤ ((S1.I x0 7) - (S1.I x0 9))) → S1.K x0 = 11 ∧ ∃ b2, S1.R x0 5 = some b2 ∧ (S1.K x0 = 11 ∧ ((S1.K b2 = 12 ∧ 0 ≤ (S1.I x0 7) ∧ (S1.I x0 7) < S1.N b2) ∧ (VX11_number_51 d (VX11_number_6 d Q n) Q x0 x1 x2 (((10 * x3) + (S1.I b2 ((S1.I x0 7)).toNat)) - 48) S1)))))))))
theorem JX11_number_6 {d : Nat} {S0 : MS} {Q : Out → MS → Prop} : ∀ (n : Nat) (x0 : Nat) (x1 : Int) (x2 : Int) (x3 : Int) (S : MS), VX11_number_6 d Q n x0 x1 x2 x3 S → Jw FinM RX11 cX11_number 4 (some .int) [] yX11_number (d + 1) S0 S 6 [(0, vA x0), (1, vI x1), (2, vI x2), (3, vI x3)] [] Q := by
  intro n
  induction n with
  | zero => intro x0 x1 x2 x3 S h; exact h.elim
  | succ n ih =>
    intro x0 x1 x2 x3 S h
    exact j_aload_n 0 dX11_number_6 rfl (j_bipush dX11_number_7 rfl (j_bipush dX11_number_9 rfl (j_callV (rest := []) 11 [vI 48, vI 57] k_RX11_119 ⟨w_7_139, p_3_14⟩ ⟨_, _, rfl⟩ (by decide) rfl rfl (Nat.le_of_ble_eq_true rfl) dX11_number_11 h (kI (fun r1 S1 h => j_if_eq (tgt := 65) dX11_number_14 (by decide) h (fun h => j_aload_n 0 dX11_number_65 rfl (j_getI 11 7 f_RX11_113 dX11_number_66 h (fun h => j_aload_n 0 dX11_number_69 rfl (j_getI 11 9 f_RX11_123 dX11_number_70 h (fun h => j_icmp_eq (tgt := 99) dX11_number_73 (by decide) h (fun h => j_sub [] rfl (JX11_number_99 _ h)) (fun h => j_aload_n 0 dX11_number_76 rfl (j_getI 11 7 f_RX11_113 dX11_number_77 h (fun h => j_aload_n 0 dX11_number_80 rfl (j_getI 11 9 f_RX11_123 dX11_number_81 h (fun h => j_isub dX11_number_84 (j_iconst dX11_number_85 (j_icmp_gt (tgt := 99) dX11_number_86 (by decide) h (fun h => j_sub [] rfl (JX11_number_99 _ h)) (fun h => j_iload_n 3 dX11_number_89 rfl (j_iload_n 1 dX11_number_90 rfl (j_icmp_lt (tgt := 99) dX11_number_91 (by decide) h (fun h => j_sub [] rfl (JX11_number_99 _ h)) (fun h => j_iload_n 3 dX11_number_94 rfl (j_iload_n 2 dX11_number_95 rfl (j_icmp_le (tgt := 103) dX11_number_96 (by decide) h (fun h => j_iload_n 3 dX11_number_103 rfl (j_iret rfl dX11_number_104 h)) (fun h => j_sub [] rfl (JX11_number_99 _ h)))))))))))))))))))) (fun h => j_aload_n 0 dX11_number_17 rfl (j_getI 11 7 f_RX11_113 dX11_number_18 h (fun h => j_aload_n 0 dX11_number_21 rfl (j_getI 11 9 f_RX11_123 dX11_number_22 h (fun h => j_isub dX11_number_25 (j_iconst dX11_number_26 (j_icmp_ge (tgt := 50) dX11_number_27 (by decide) h (fun h => j_iload_n 3 dX11_number_50 rfl (j_sub [0, 1, 2] rfl (JX11_number_51 ih _ _ _ _ _ h))) (fun h => j_bipush dX11_number_30 rfl (j_iload_n 3 dX11_number_32 rfl (j_imul dX11_number_33 (j_aload_n 0 dX11_number_34 rfl (j_getR 11 5 f_RX11_23 dX11_number_35 h (fun b2 h => j_aload_n 0 dX11_number_38 rfl (j_getI 11 7 f_RX11_113 dX11_number_39 h (fun h => j_bald dX11_number_42 h (fun h => j_iadd dX11_number_43 (j_bipush dX11_number_44 rfl (j_isub dX11_number_46 (j_goto (tgt := 51) dX11_number_47 (by decide) (j_sub [0, 1, 2] rfl (JX11_number_51 ih _ _ _ _ _ h))))))))))))))))))))))) (fun _ _ h => h.elim))))
def VX11_number_0 (d : Nat) (Q : Out → MS → Prop) (x0 : Nat) (x1 : Int) (x2 : Int) (S : MS) : Prop :=
  S.K x0 = 11 ∧ Mw hX11_blanks yX11_blanks d [vA x0] S (oV (fun S1 => ∃ m, VX11_number_6 d Q m x0 x1 x2 0 S1))
theorem JX11_number_0 {d : Nat} {S0 : MS} {Q : Out → MS → Prop} (x0 : Nat) (x1 : Int) (x2 : Int) (S : MS) (h : VX11_number_0 d Q x0 x1 x2 S) : Jw FinM RX11 cX11_number 4 (some .int) [] yX11_number (d + 1) S0 S 0 [(0, vA x0), (1, vI x1), (2, vI x2)] [] Q :=
  j_aload_n 0 dX11_number_0 rfl (j_callV (rest := []) 11 [] k_RX11_126 ⟨w_7_135, p_3_13⟩ ⟨_, _, rfl⟩ (by decide) rfl rfl (Nat.le_of_ble_eq_true rfl) dX11_number_1 h (kV (fun S1 h => j_iconst dX11_number_4 (j_istore_n (lv2 := [(3, vI 0), (0, vA x0), (1, vI x1), (2, vI x2)]) dX11_number_5 (by decide) rfl (Exists.elim h (fun m h => j_sub [1, 2, 3, 0] rfl (JX11_number_6 m _ _ _ _ _ h)))))) (fun _ _ h => h.elim))
theorem MX11_number {d : Nat} {x0 : Nat} {x1 : Int} {x2 : Int} {S : MS} {Q : Out → MS → Prop} (h : VX11_number_0 d Q x0 x1 x2 S) : Mw hX11_number yX11_number (d + 1) [vA x0, vI x1, vI x2] S Q := Mw.ofJ (by decide) (Nat.le_of_ble_eq_true rfl) (JX11_number_0 _ _ _ S h)
theorem dX11_fault_0 : decode cX11_fault 0 = .ok (.aload_n 0, 1) := by decide +kernel
theorem dX11_fault_1 : decode cX11_fault 1 = .ok (.iconst 0, 1) := by decide +kernel
theorem dX11_fault_2 : decode cX11_fault 2 = .ok (.putfield 3, 3) := by decide +kernel
theorem dX11_fault_5 : decode cX11_fault 5 = .ok (.aload_n 0, 1) := by decide +kernel
theorem dX11_fault_6 : decode cX11_fault 6 = .ok (.getfield 27, 3) := by decide +kernel
theorem dX11_fault_9 : decode cX11_fault 9 = .ok (.ireturn, 1) := by decide +kernel
def VX11_fault_0 (d : Nat) (Q : Out → MS → Prop) (x0 : Nat) (S : MS) : Prop :=
  S.K x0 = 11 ∧ ((S.setI x0 0 0).K x0 = 11 ∧ (Q (.inl (some (vI ((S.setI x0 0 0).I x0 10)))) (S.setI x0 0 0)))
theorem JX11_fault_0 {d : Nat} {S0 : MS} {Q : Out → MS → Prop} (x0 : Nat) (S : MS) (h : VX11_fault_0 d Q x0 S) : Jw FinM RX11 cX11_fault 1 (some .int) [] yX11_fault (d + 1) S0 S 0 [(0, vA x0)] [] Q :=
  j_aload_n 0 dX11_fault_0 rfl (j_iconst dX11_fault_1 (j_putI 11 0 f_RX11_3 dX11_fault_2 h (fun h => j_aload_n 0 dX11_fault_5 rfl (j_getI 11 10 f_RX11_27 dX11_fault_6 h (fun h => j_iret rfl dX11_fault_9 h)))))
theorem MX11_fault {d : Nat} {x0 : Nat} {S : MS} {Q : Out → MS → Prop} (h : VX11_fault_0 d Q x0 S) : Mw hX11_fault yX11_fault (d + 1) [vA x0] S Q := Mw.ofJ (by decide) (Nat.le_of_ble_eq_true rfl) (JX11_fault_0 _ S h)
theorem dX11_drafted_0 : decode cX11_drafted 0 = .ok (.aload_n 0, 1) := by decide +kernel
theorem dX11_drafted_1 : decode cX11_drafted 1 = .ok (.getfield 20, 3) := by decide +kernel
theorem dX11_drafted_4 : decode cX11_drafted 4 = .ok (.iconst 0, 1) := by decide +kernel
theorem dX11_drafted_5 : decode cX11_drafted 5 = .ok (.iaload, 1) := by decide +kernel
theorem dX11_drafted_6 : decode cX11_drafted 6 = .ok (.iconst 1, 1) := by decide +kernel
theorem dX11_drafted_7 : decode cX11_drafted 7 = .ok (.isub, 1) := by decide +kernel
theorem dX11_drafted_8 : decode cX11_drafted 8 = .ok (.ireturn, 1) := by decide +kernel
def VX11_drafted_0 (d : Nat) (Q : Out → MS → Prop) (x0 : Nat) (S : MS) : Prop :=
  S.K x0 = 11 ∧ ∃ b1, S.R x0 3 = some b1 ∧ ((S.K b1 = 13 ∧ 0 ≤ (0 : Int) ∧ (0 : Int) < S.N b1) ∧ (Q (.inl (some (vI ((S.I b1 ((0 : Int)).toNat) - 1)))) S))
theorem JX11_drafted_0 {d : Nat} {S0 : MS} {Q : Out → MS → Prop} (x0 : Nat) (S : MS) (h : VX11_drafted_0 d Q x0 S) : Jw FinM RX11 cX11_drafted 1 (some .int) [] yX11_drafted (d + 1) S0 S 0 [(0, vA x0)] [] Q :=
  j_aload_n 0 dX11_drafted_0 rfl (j_getR 11 3 f_RX11_20 dX11_drafted_1 h (fun b1 h => j_iconst dX11_drafted_4 (j_iald dX11_drafted_5 h (fun h => j_iconst dX11_drafted_6 (j_isub dX11_drafted_7 (j_iret rfl dX11_drafted_8 h))))))
theorem MX11_drafted {d : Nat} {x0 : Nat} {S : MS} {Q : Out → MS → Prop} (h : VX11_drafted_0 d Q x0 S) : Mw hX11_drafted yX11_drafted (d + 1) [vA x0] S Q := Mw.ofJ (by decide) (Nat.le_of_ble_eq_true rfl) (JX11_drafted_0 _ S h)
theorem dX11_readThings_0 : decode cX11_readThings 0 = .ok (.aload_n 0, 1) := by decide +kernel
theorem dX11_readThings_1 : decode cX11_readThings 1 = .ok (.getfield 20, 3) := by decide +kernel
theorem dX11_readThings_4 : decode cX11_readThings 4 = .ok (.iconst 2, 1) := by decide +kernel
theorem dX11_readThings_5 : decode cX11_readThings 5 = .ok (.iaload, 1) := by decide +kernel
theorem dX11_readThings_6 : decode cX11_readThings 6 = .ok (.ifCond .le 5, 3) := by decide +kernel
theorem dX11_readThings_9 : decode cX11_readThings 9 = .ok (.iconst 0, 1) := by decide +kernel
theorem dX11_readThings_10 : decode cX11_readThings 10 = .ok (.ireturn, 1) := by decide +kernel
theorem dX11_readThings_11 : decode cX11_readThings 11 = .ok (.aload_n 0, 1) := by decide +kernel
theorem dX11_readThings_12 : decode cX11_readThings 12 = .ok (.iconst 3, 1) := by decide +kernel
theorem dX11_readThings_13 : decode cX11_readThings 13 = .ok (.bipush 7, 2) := by decide +kernel
theorem dX11_readThings_15 : decode cX11_readThings 15 = .ok (.invokevirtual 138, 3) := by decide +kernel
theorem dX11_readThings_18 : decode cX11_readThings 18 = .ok (.istore_n 1, 1) := by decide +kernel
theorem dX11_readThings_19 : decode cX11_readThings 19 = .ok (.iload_n 1, 1) := by decide +kernel
theorem dX11_readThings_20 : decode cX11_readThings 20 = .ok (.ifCond .ge 5, 3) := by decide +kernel
theorem dX11_readThings_23 : decode cX11_readThings 23 = .ok (.iconst 0, 1) := by decide +kernel
theorem dX11_readThings_24 : decode cX11_readThings 24 = .ok (.ireturn, 1) := by decide +kernel
theorem dX11_readThings_25 : decode cX11_readThings 25 = .ok (.aload_n 0, 1) := by decide +kernel
theorem dX11_readThings_26 : decode cX11_readThings 26 = .ok (.getfield 20, 3) := by decide +kernel
theorem dX11_readThings_29 : decode cX11_readThings 29 = .ok (.iload_n 1, 1) := by decide +kernel
theorem dX11_readThings_30 : decode cX11_readThings 30 = .ok (.invokestatic 141, 3) := by decide +kernel
theorem dX11_readThings_33 : decode cX11_readThings 33 = .ok (.iconst 1, 1) := by decide +kernel
theorem dX11_readThings_34 : decode cX11_readThings 34 = .ok (.ireturn, 1) := by decide +kernel
def VX11_readThings_0 (d : Nat) (Q : Out → MS → Prop) (x0 : Nat) (S : MS) : Prop :=
  S.K x0 = 11 ∧ ∃ b1, S.R x0 3 = some b1 ∧ ((S.K b1 = 13 ∧ 0 ≤ (2 : Int) ∧ (2 : Int) < S.N b1) ∧ (R32 (S.I b1 ((2 : Int)).toNat) ∧ (((S.I b1 ((2 : Int)).toNat) ≤ 0) → S.K x0 = 11 ∧ Mw hX11_number yX11_number d [vA x0, vI 3, vI 7] S (oI (fun r2 S2 => R32 r2 ∧ ((0 ≤ r2) → S2.K x0 = 11 ∧ ∃ b3, S2.R x0 3 = some b3 ∧ (Mw hX11_setsThings yX11_setsThings d [vA b3, vI r2] S2 (oV (fun S4 => B01 1 ∧ Q (.inl (some (vI 1))) S4)))) ∧ (¬ (0 ≤ r2) → B01 0 ∧ Q (.inl (some (vI 0))) S2)))) ∧ (¬ ((S.I b1 ((2 : Int)).toNat) ≤ 0) → B01 0 ∧ Q (.inl (some (vI 0))) S)))
theorem JX11_readThings_0 {d : Nat} {S0 : MS} {Q : Out → MS → Prop} (x0 : Nat) (S : MS) (h : VX11_readThings_0 d Q x0 S) : Jw FinM RX11 cX11_readThings 2 (some .boolean) [] yX11_readThings (d + 1) S0 S 0 [(0, vA x0)] [] Q :=
  j_aload_n 0 dX11_readThings_0 rfl (j_getR 11 3 f_RX11_20 dX11_readThings_1 h (fun b1 h => j_iconst dX11_readThings_4 (j_iald dX11_readThings_5 h (fun h => j_if_le (tgt := 11) dX11_readThings_6 (by decide) h (fun h => j_aload_n 0 dX11_readThings_11 rfl (j_iconst dX11_readThings_12 (j_bipush dX11_readThings_13 rfl (j_callV (rest := []) 11 [vI 3, vI 7] k_RX11_138 ⟨w_7_162, p_4_3⟩ ⟨_, _, rfl⟩ (by decide) rfl rfl (Nat.le_of_ble_eq_true rfl) dX11_readThings_15 h (kI (fun r2 S2 h => j_istore_n (lv2 := [(1, vI r2), (0, vA x0)]) dX11_readThings_18 (by decide) rfl (j_iload_n 0 dX11_readThings_19 rfl (j_if_ge (tgt := 25) dX11_readThings_20 (by decide) h (fun h => j_aload_n 1 dX11_readThings_25 rfl (j_getR 11 3 f_RX11_20 dX11_readThings_26 h (fun b3 h => j_iload_n 0 dX11_readThings_29 rfl (j_callS (rest := []) [vA b3, vI r2] k_RX11_141 w_7_165 rfl rfl (Nat.le_of_ble_eq_true rfl) dX11_readThings_30 h (kV (fun S4 h => j_iconst dX11_readThings_33 (j_zret rfl dX11_readThings_34 h))) (fun _ _ h => h.elim))))) (fun h => j_iconst dX11_readThings_23 (j_zret rfl dX11_readThings_24 h)))))) (fun _ _ h => h.elim))))) (fun h => j_iconst dX11_readThings_9 (j_zret rfl dX11_readThings_10 h))))))
theorem MX11_readThings {d : Nat} {x0 : Nat} {S : MS} {Q : Out → MS → Prop} (h : VX11_readThings_0 d Q x0 S) : Mw hX11_readThings yX11_readThings (d + 1) [vA x0] S Q := Mw.ofJ (by decide) (Nat.le_of_ble_eq_true rfl) (JX11_readThings_0 _ S h)
theorem dX11_setsThings_0 : decode cX11_setsThings 0 = .ok (.aload_n 0, 1) := by decide +kernel
theorem dX11_setsThings_1 : decode cX11_setsThings 1 = .ok (.iconst 0, 1) := by decide +kernel
theorem dX11_setsThings_2 : decode cX11_setsThings 2 = .ok (.iload_n 1, 1) := by decide +kernel
theorem dX11_setsThings_3 : decode cX11_setsThings 3 = .ok (.iastore, 1) := by decide +kernel
theorem dX11_setsThings_4 : decode cX11_setsThings 4 = .ok (.iload_n 1, 1) := by decide +kernel
theorem dX11_setsThings_5 : decode cX11_setsThings 5 = .ok (.istore_n 2, 1) := by decide +kernel
theorem dX11_setsThings_6 : decode cX11_setsThings 6 = .ok (.iload_n 2, 1) := by decide +kernel
theorem dX11_setsThings_7 : decode cX11_setsThings 7 = .ok (.bipush 7, 2) := by decide +kernel
theorem dX11_setsThings_9 : decode cX11_setsThings 9 = .ok (.if_icmp .ge 15, 3) := by decide +kernel
theorem dX11_setsThings_12 : decode cX11_setsThings 12 = .ok (.aload_n 0, 1) := by decide +kernel
theorem dX11_setsThings_13 : decode cX11_setsThings 13 = .ok (.iconst 4, 1) := by decide +kernel
theorem dX11_setsThings_14 : decode cX11_setsThings 14 = .ok (.iload_n 2, 1) := by decide +kernel
theorem dX11_setsThings_15 : decode cX11_setsThings 15 = .ok (.iadd, 1) := by decide +kernel
theorem dX11_setsThings_16 : decode cX11_setsThings 16 = .ok (.iconst 0, 1) := by decide +kernel
theorem dX11_setsThings_17 : decode cX11_setsThings 17 = .ok (.iastore, 1) := by decide +kernel
theorem dX11_setsThings_18 : decode cX11_setsThings 18 = .ok (.iinc 2 1, 3) := by decide +kernel
theorem dX11_setsThings_21 : decode cX11_setsThings 21 = .ok (.goto (-15), 3) := by decide +kernel
theorem dX11_setsThings_24 : decode cX11_setsThings 24 = .ok (.return_, 1) := by decide +kernel
def VX11_setsThings_6 (d : Nat) (Q : Out → MS → Prop) : Nat → Nat → Int → MS → Prop
  | 0, _, _, _ => False
  | n + 1, x0, x2, S => (R32 x2 ∧ R32 (7 : Int)) ∧ (((7 : Int) ≤ x2) → Q (.inl none) S) ∧ (¬ ((7 : Int) ≤ x2) → (S.K x0 = 13 ∧ 0 ≤ (4 + x2) ∧ (4 + x2) < S.N x0) ∧ ((VX11_setsThings_6 d Q n) x0 (x2 + 1) (S.setI x0 ((4 + x2)).toNat 0)))
theorem JX11_setsThings_6 {d : Nat} {S0 : MS} {Q : Out → MS → Prop} : ∀ (n : Nat) (x0 : Nat) (x2 : Int) (S : MS), VX11_setsThings_6 d Q n x0 x2 S → Jw FinM RX11 cX11_setsThings 3 none [] yX11_setsThings (d + 1) S0 S 6 [(0, vA x0), (2, vI x2)] [] Q := by
  intro n
  induction n with
  | zero => intro x0 x2 S h; exact h.elim
  | succ n ih =>
    intro x0 x2 S h
    exact j_iload_n 1 dX11_setsThings_6 rfl (j_bipush dX11_setsThings_7 rfl (j_icmp_ge (tgt := 24) dX11_setsThings_9 (by decide) h (fun h => j_vret rfl dX11_setsThings_24 h) (fun h => j_aload_n 0 dX11_setsThings_12 rfl (j_iconst dX11_setsThings_13 (j_iload_n 1 dX11_setsThings_14 rfl (j_iadd dX11_setsThings_15 (j_iconst dX11_setsThings_16 (j_iast dX11_setsThings_17 h (fun h => j_iinc 1 (lv2 := [(2, vI (x2 + 1)), (0, vA x0)]) dX11_setsThings_18 rfl (by decide) rfl (j_goto (tgt := 6) dX11_setsThings_21 (by decide) (j_sub [1, 0] rfl (ih _ _ _ h))))))))))))
def VX11_setsThings_0 (d : Nat) (Q : Out → MS → Prop) (x0 : Nat) (x1 : Int) (S : MS) : Prop :=
  (S.K x0 = 13 ∧ 0 ≤ (0 : Int) ∧ (0 : Int) < S.N x0) ∧ (∃ m, VX11_setsThings_6 d Q m x0 x1 (S.setI x0 ((0 : Int)).toNat x1))
theorem JX11_setsThings_0 {d : Nat} {S0 : MS} {Q : Out → MS → Prop} (x0 : Nat) (x1 : Int) (S : MS) (h : VX11_setsThings_0 d Q x0 x1 S) : Jw FinM RX11 cX11_setsThings 3 none [] yX11_setsThings (d + 1) S0 S 0 [(0, vA x0), (1, vI x1)] [] Q :=
  j_aload_n 0 dX11_setsThings_0 rfl (j_iconst dX11_setsThings_1 (j_iload_n 1 dX11_setsThings_2 rfl (j_iast dX11_setsThings_3 h (fun h => j_iload_n 1 dX11_setsThings_4 rfl (j_istore_n (lv2 := [(2, vI x1), (0, vA x0), (1, vI x1)]) dX11_setsThings_5 (by decide) rfl (Exists.elim h (fun m h => j_sub [1, 0] rfl (JX11_setsThings_6 m _ _ _ h))))))))
theorem MX11_setsThings {d : Nat} {x0 : Nat} {x1 : Int} {S : MS} {Q : Out → MS → Prop} (h : VX11_setsThings_0 d Q x0 x1 S) : Mw hX11_setsThings yX11_setsThings (d + 1) [vA x0, vI x1] S Q := Mw.ofJ (by decide) (Nat.le_of_ble_eq_true rfl) (JX11_setsThings_0 _ _ S h)
theorem dX11_readScale_0 : decode cX11_readScale 0 = .ok (.aload_n 0, 1) := by decide +kernel
theorem dX11_readScale_1 : decode cX11_readScale 1 = .ok (.getfield 20, 3) := by decide +kernel
theorem dX11_readScale_4 : decode cX11_readScale 4 = .ok (.iconst 1, 1) := by decide +kernel
theorem dX11_readScale_5 : decode cX11_readScale 5 = .ok (.iaload, 1) := by decide +kernel
theorem dX11_readScale_6 : decode cX11_readScale 6 = .ok (.iconst 4, 1) := by decide +kernel
theorem dX11_readScale_7 : decode cX11_readScale 7 = .ok (.if_icmp .ne 5, 3) := by decide +kernel
theorem dX11_readScale_10 : decode cX11_readScale 10 = .ok (.iconst 0, 1) := by decide +kernel
theorem dX11_readScale_11 : decode cX11_readScale 11 = .ok (.ireturn, 1) := by decide +kernel
theorem dX11_readScale_12 : decode cX11_readScale 12 = .ok (.aload_n 0, 1) := by decide +kernel
theorem dX11_readScale_13 : decode cX11_readScale 13 = .ok (.invokevirtual 145, 3) := by decide +kernel
theorem dX11_readScale_16 : decode cX11_readScale 16 = .ok (.aload_n 0, 1) := by decide +kernel
theorem dX11_readScale_17 : decode cX11_readScale 17 = .ok (.ldc 148, 2) := by decide +kernel
theorem dX11_readScale_19 : decode cX11_readScale 19 = .ok (.invokevirtual 150, 3) := by decide +kernel
theorem dX11_readScale_22 : decode cX11_readScale 22 = .ok (.ifCond .eq 7, 3) := by decide +kernel
theorem dX11_readScale_25 : decode cX11_readScale 25 = .ok (.iconst 0, 1) := by decide +kernel
theorem dX11_readScale_26 : decode cX11_readScale 26 = .ok (.goto 30, 3) := by decide +kernel
theorem dX11_readScale_29 : decode cX11_readScale 29 = .ok (.aload_n 0, 1) := by decide +kernel
theorem dX11_readScale_30 : decode cX11_readScale 30 = .ok (.ldc 154, 2) := by decide +kernel
theorem dX11_readScale_32 : decode cX11_readScale 32 = .ok (.invokevirtual 150, 3) := by decide +kernel
theorem dX11_readScale_35 : decode cX11_readScale 35 = .ok (.ifCond .eq 7, 3) := by decide +kernel
theorem dX11_readScale_38 : decode cX11_readScale 38 = .ok (.iconst 1, 1) := by decide +kernel
theorem dX11_readScale_39 : decode cX11_readScale 39 = .ok (.goto 17, 3) := by decide +kernel
theorem dX11_readScale_42 : decode cX11_readScale 42 = .ok (.aload_n 0, 1) := by decide +kernel
theorem dX11_readScale_43 : decode cX11_readScale 43 = .ok (.ldc 156, 2) := by decide +kernel
theorem dX11_readScale_45 : decode cX11_readScale 45 = .ok (.invokevirtual 150, 3) := by decide +kernel
theorem dX11_readScale_48 : decode cX11_readScale 48 = .ok (.ifCond .eq 7, 3) := by decide +kernel
theorem dX11_readScale_51 : decode cX11_readScale 51 = .ok (.iconst 2, 1) := by decide +kernel
theorem dX11_readScale_52 : decode cX11_readScale 52 = .ok (.goto 4, 3) := by decide +kernel
theorem dX11_readScale_55 : decode cX11_readScale 55 = .ok (.iconst (-1), 1) := by decide +kernel
theorem dX11_readScale_56 : decode cX11_readScale 56 = .ok (.istore_n 1, 1) := by decide +kernel
theorem dX11_readScale_57 : decode cX11_readScale 57 = .ok (.iload_n 1, 1) := by decide +kernel
theorem dX11_readScale_58 : decode cX11_readScale 58 = .ok (.ifCond .ge 7, 3) := by decide +kernel
theorem dX11_readScale_61 : decode cX11_readScale 61 = .ok (.iconst (-1), 1) := by decide +kernel
theorem dX11_readScale_62 : decode cX11_readScale 62 = .ok (.goto 10, 3) := by decide +kernel
theorem dX11_readScale_65 : decode cX11_readScale 65 = .ok (.aload_n 0, 1) := by decide +kernel
theorem dX11_readScale_66 : decode cX11_readScale 66 = .ok (.iconst 0, 1) := by decide +kernel
theorem dX11_readScale_67 : decode cX11_readScale 67 = .ok (.bipush 99, 2) := by decide +kernel
theorem dX11_readScale_69 : decode cX11_readScale 69 = .ok (.invokevirtual 138, 3) := by decide +kernel
theorem dX11_readScale_72 : decode cX11_readScale 72 = .ok (.istore_n 2, 1) := by decide +kernel
theorem dX11_readScale_73 : decode cX11_readScale 73 = .ok (.iload_n 2, 1) := by decide +kernel
theorem dX11_readScale_74 : decode cX11_readScale 74 = .ok (.ifCond .ge 7, 3) := by decide +kernel
theorem dX11_readScale_77 : decode cX11_readScale 77 = .ok (.iconst (-1), 1) := by decide +kernel
theorem dX11_readScale_78 : decode cX11_readScale 78 = .ok (.goto 9, 3) := by decide +kernel
theorem dX11_readScale_81 : decode cX11_readScale 81 = .ok (.aload_n 0, 1) := by decide +kernel
theorem dX11_readScale_82 : decode cX11_readScale 82 = .ok (.iconst 0, 1) := by decide +kernel
theorem dX11_readScale_83 : decode cX11_readScale 83 = .ok (.iconst 3, 1) := by decide +kernel
theorem dX11_readScale_84 : decode cX11_readScale 84 = .ok (.invokevirtual 138, 3) := by decide +kernel
theorem dX11_readScale_87 : decode cX11_readScale 87 = .ok (.istore_n 3, 1) := by decide +kernel
theorem dX11_readScale_88 : decode cX11_readScale 88 = .ok (.iload_n 3, 1) := by decide +kernel
theorem dX11_readScale_89 : decode cX11_readScale 89 = .ok (.ifCond .ge 5, 3) := by decide +kernel
theorem dX11_readScale_92 : decode cX11_readScale 92 = .ok (.iconst 0, 1) := by decide +kernel
theorem dX11_readScale_93 : decode cX11_readScale 93 = .ok (.ireturn, 1) := by decide +kernel
theorem dX11_readScale_94 : decode cX11_readScale 94 = .ok (.bipush 11, 2) := by decide +kernel
theorem dX11_readScale_96 : decode cX11_readScale 96 = .ok (.iconst 3, 1) := by decide +kernel
theorem dX11_readScale_97 : decode cX11_readScale 97 = .ok (.aload_n 0, 1) := by decide +kernel
theorem dX11_readScale_98 : decode cX11_readScale 98 = .ok (.getfield 20, 3) := by decide +kernel
theorem dX11_readScale_101 : decode cX11_readScale 101 = .ok (.iconst 1, 1) := by decide +kernel
theorem dX11_readScale_102 : decode cX11_readScale 102 = .ok (.iaload, 1) := by decide +kernel
theorem dX11_readScale_103 : decode cX11_readScale 103 = .ok (.imul, 1) := by decide +kernel
theorem dX11_readScale_104 : decode cX11_readScale 104 = .ok (.iadd, 1) := by decide +kernel
theorem dX11_readScale_105 : decode cX11_readScale 105 = .ok (.istore 4, 2) := by decide +kernel
theorem dX11_readScale_107 : decode cX11_readScale 107 = .ok (.aload_n 0, 1) := by decide +kernel
theorem dX11_readScale_108 : decode cX11_readScale 108 = .ok (.getfield 20, 3) := by decide +kernel
theorem dX11_readScale_111 : decode cX11_readScale 111 = .ok (.iload 4, 2) := by decide +kernel
theorem dX11_readScale_113 : decode cX11_readScale 113 = .ok (.iload_n 1, 1) := by decide +kernel
theorem dX11_readScale_114 : decode cX11_readScale 114 = .ok (.iastore, 1) := by decide +kernel
theorem dX11_readScale_115 : decode cX11_readScale 115 = .ok (.aload_n 0, 1) := by decide +kernel
theorem dX11_readScale_116 : decode cX11_readScale 116 = .ok (.getfield 20, 3) := by decide +kernel
theorem dX11_readScale_119 : decode cX11_readScale 119 = .ok (.iload 4, 2) := by decide +kernel
theorem dX11_readScale_121 : decode cX11_readScale 121 = .ok (.iconst 1, 1) := by decide +kernel
theorem dX11_readScale_122 : decode cX11_readScale 122 = .ok (.iadd, 1) := by decide +kernel
theorem dX11_readScale_123 : decode cX11_readScale 123 = .ok (.iload_n 2, 1) := by decide +kernel
theorem dX11_readScale_124 : decode cX11_readScale 124 = .ok (.iastore, 1) := by decide +kernel
theorem dX11_readScale_125 : decode cX11_readScale 125 = .ok (.aload_n 0, 1) := by decide +kernel
theorem dX11_readScale_126 : decode cX11_readScale 126 = .ok (.getfield 20, 3) := by decide +kernel
theorem dX11_readScale_129 : decode cX11_readScale 129 = .ok (.iload 4, 2) := by decide +kernel
theorem dX11_readScale_131 : decode cX11_readScale 131 = .ok (.iconst 2, 1) := by decide +kernel
theorem dX11_readScale_132 : decode cX11_readScale 132 = .ok (.iadd, 1) := by decide +kernel
theorem dX11_readScale_133 : decode cX11_readScale 133 = .ok (.iload_n 3, 1) := by decide +kernel
theorem dX11_readScale_134 : decode cX11_readScale 134 = .ok (.iastore, 1) := by decide +kernel
theorem dX11_readScale_135 : decode cX11_readScale 135 = .ok (.aload_n 0, 1) := by decide +kernel
theorem dX11_readScale_136 : decode cX11_readScale 136 = .ok (.getfield 20, 3) := by decide +kernel
theorem dX11_readScale_139 : decode cX11_readScale 139 = .ok (.iconst 1, 1) := by decide +kernel
theorem dX11_readScale_140 : decode cX11_readScale 140 = .ok (.dup2, 1) := by decide +kernel
theorem dX11_readScale_141 : decode cX11_readScale 141 = .ok (.iaload, 1) := by decide +kernel
theorem dX11_readScale_142 : decode cX11_readScale 142 = .ok (.iconst 1, 1) := by decide +kernel
theorem dX11_readScale_143 : decode cX11_readScale 143 = .ok (.iadd, 1) := by decide +kernel
theorem dX11_readScale_144 : decode cX11_readScale 144 = .ok (.iastore, 1) := by decide +kernel
theorem dX11_readScale_145 : decode cX11_readScale 145 = .ok (.iconst 1, 1) := by decide +kernel
theorem dX11_readScale_146 : decode cX11_readScale 146 = .ok (.ireturn, 1) := by decide +kernel
def VX11_readScale_87 (d : Nat) (Q : Out → MS → Prop) (x0 : Nat) (x1 : Int) (x2 : Int) (t0 : Int) (S : MS) : Prop :=
  R32 t0 ∧ ((0 ≤ t0) → S.K x0 = 11 ∧ ∃ b1, S.R x0 3 = some b1 ∧ ((S.K b1 = 13 ∧ 0 ≤ (1 : Int) ∧ (1 : Int) < S.N b1) ∧ (S.K x0 = 11 ∧ ∃ b2, S.R x0 3 = some b2 ∧ ((S.K b2 = 13 ∧ 0 ≤ (11 + (3 * (S.I b1 ((1 : Int)).toNat))) ∧ (11 + (3 * (S.I b1 ((1 : Int)).toNat))) < S.N b2) ∧ ((S.setI b2 ((11 + (3 * (S.I b1 ((1 : Int)).toNat)))).toNat x1).K x0 = 11 ∧ ∃ b3, (S.setI b2 ((11 + (3 * (S.I b1 ((1 : Int)).toNat)))).toNat x1).R x0 3 = some b3 ∧ (((S.setI b2 ((11 + (3 * (S.I b1 ((1 : Int)).toNat)))).toNat x1).K b3 = 13 ∧ 0 ≤ ((11 + (3 * (S.I b1 ((1 : Int)).toNat))) + 1) ∧ ((11 + (3 * (S.I b1 ((1 : Int)).toNat))) + 1) < (S.setI b2 ((11 + (3 * (S.I b1 ((1 : Int)).toNat)))).toNat x1).N b3) ∧ (∀ S4 : MS, S4 = (S.setI b2 ((11 + (3 * (S.I b1 ((1 : Int)).toNat)))).toNat x1).setI b3 (((11 + (3 * (S.I b1 ((1 : Int)).toNat))) + 1)).toNat x2 → S4.K x0 = 11 ∧ ∃ b5, S4.R x0 3 = some b5 ∧ ((S4.K b5 = 13 ∧ 0 ≤ ((11 + (3 * (S.I b1 ((1 : Int)).toNat))) + 2) ∧ ((11 + (3 * (S.I b1 ((1 : Int)).toNat))) + 2) < S4.N b5) ∧ ((S4.setI b5 (((11 + (3 * (S.I b1 ((1 : Int)).toNat))) + 2)).toNat t0).K x0 = 11 ∧ ∃ b6, (S4.setI b5 (((11 + (3 * (S.I b1 ((1 : Int)).toNat))) + 2)).toNat t0).R x0 3 = some b6 ∧ (((S4.setI b5 (((11 + (3 * (S.I b1 ((1 : Int)).toNat))) + 2)).toNat t0).K b6 = 13 ∧ 0 ≤ (1 : Int) ∧ (1 : Int) < (S4.setI b5 (((11 + (3 * (S.I b1 ((1 : Int)).toNat))) + 2)).toNat t0).N b6) ∧ (((S4.setI b5 (((11 + (3 * (S.I b1 ((1 : Int)).toNat))) + 2)).toNat t0).K b6 = 13 ∧ 0 ≤ (1 : Int) ∧ (1 : Int) < (S4.setI b5 (((11 + (3 * (S.I b1 ((1 : Int)).toNat))) + 2)).toNat t0).N b6) ∧ (∀ S7 : MS, S7 = (S4.setI b5 (((11 + (3 * (S.I b1 ((1 : Int)).toNat))) + 2)).toNat t0).setI b6 ((1 : Int)).toNat (((S4.setI b5 (((11 + (3 * (S.I b1 ((1 : Int)).toNat))) + 2)).toNat t0).I b6 ((1 : Int)).toNat) + 1) → B01 1 ∧ Q (.inl (some (vI 1))) S7)))))))))))) ∧ (¬ (0 ≤ t0) → B01 0 ∧ Q (.inl (some (vI 0))) S)
theorem JX11_readScale_87 {d : Nat} {S0 : MS} {Q : Out → MS → Prop} (x0 : Nat) (x1 : Int) (x2 : Int) (t0 : Int) (S : MS) (h : VX11_readScale_87 d Q x0 x1 x2 t0 S) : Jw FinM RX11 cX11_readScale 5 (some .boolean) [] yX11_readScale (d + 1) S0 S 87 [(0, vA x0), (1, vI x1), (2, vI x2)] [vI t0] Q :=
  j_istore_n (lv2 := [(3, vI t0), (0, vA x0), (1, vI x1), (2, vI x2)]) dX11_readScale_87 (by decide) rfl (j_iload_n 0 dX11_readScale_88 rfl (j_if_ge (tgt := 94) dX11_readScale_89 (by decide) h (fun h => j_bipush dX11_readScale_94 rfl (j_iconst dX11_readScale_96 (j_aload_n 1 dX11_readScale_97 rfl (j_getR 11 3 f_RX11_20 dX11_readScale_98 h (fun b1 h => j_iconst dX11_readScale_101 (j_iald dX11_readScale_102 h (fun h => j_imul dX11_readScale_103 (j_iadd dX11_readScale_104 (j_istore (lv2 := [(4, vI (11 + (3 * (S.I b1 ((1 : Int)).toNat)))), (3, vI t0), (0, vA x0), (1, vI x1), (2, vI x2)]) dX11_readScale_105 (by decide) rfl (j_aload_n 2 dX11_readScale_107 rfl (j_getR 11 3 f_RX11_20 dX11_readScale_108 h (fun b2 h => j_iload 0 dX11_readScale_111 rfl (j_iload_n 3 dX11_readScale_113 rfl (j_iast dX11_readScale_114 h (fun h => j_aload_n 2 dX11_readScale_115 rfl (j_getR 11 3 f_RX11_20 dX11_readScale_116 h (fun b3 h => j_iload 0 dX11_readScale_119 rfl (j_iconst dX11_readScale_121 (j_iadd dX11_readScale_122 (j_iload_n 4 dX11_readScale_123 rfl (j_iast dX11_readScale_124 h (fun h => j_bind h (fun S4 h => j_aload_n 2 dX11_readScale_125 rfl (j_getR 11 3 f_RX11_20 dX11_readScale_126 h (fun b5 h => j_iload 0 dX11_readScale_129 rfl (j_iconst dX11_readScale_131 (j_iadd dX11_readScale_132 (j_iload_n 1 dX11_readScale_133 rfl (j_iast dX11_readScale_134 h (fun h => j_aload_n 2 dX11_readScale_135 rfl (j_getR 11 3 f_RX11_20 dX11_readScale_136 h (fun b6 h => j_iconst dX11_readScale_139 (j_dup2 rfl rfl dX11_readScale_140 (j_iald dX11_readScale_141 h (fun h => j_iconst dX11_readScale_142 (j_iadd dX11_readScale_143 (j_iast dX11_readScale_144 h (fun h => j_bind h (fun S7 h => j_iconst dX11_readScale_145 (j_zret rfl dX11_readScale_146 h)))))))))))))))))))))))))))))))))))))))) (fun h => j_iconst dX11_readScale_92 (j_zret rfl dX11_readScale_93 h))))
def VX11_readScale_72 (d : Nat) (Q : Out → MS → Prop) (x0 : Nat) (x1 : Int) (t0 : Int) (S : MS) : Prop :=
  R32 t0 ∧ ((0 ≤ t0) → S.K x0 = 11 ∧ Mw hX11_number yX11_number d [vA x0, vI 0, vI 3] S (oI (fun r1 S1 => VX11_readScale_87 d Q x0 x1 t0 r1 S1))) ∧ (¬ (0 ≤ t0) → VX11_readScale_87 d Q x0 x1 t0 ((-1)) S)
theorem JX11_readScale_72 {d : Nat} {S0 : MS} {Q : Out → MS → Prop} (x0 : Nat) (x1 : Int) (t0 : Int) (S : MS) (h : VX11_readScale_72 d Q x0 x1 t0 S) : Jw FinM RX11 cX11_readScale 5 (some .boolean) [] yX11_readScale (d + 1) S0 S 72 [(0, vA x0), (1, vI x1)] [vI t0] Q :=
  j_istore_n (lv2 := [(2, vI t0), (0, vA x0), (1, vI x1)]) dX11_readScale_72 (by decide) rfl (j_iload_n 0 dX11_readScale_73 rfl (j_if_ge (tgt := 81) dX11_readScale_74 (by decide) h (fun h => j_aload_n 1 dX11_readScale_81 rfl (j_iconst dX11_readScale_82 (j_iconst dX11_readScale_83 (j_callV (rest := []) 11 [vI 0, vI 3] k_RX11_138 ⟨w_7_162, p_4_3⟩ ⟨_, _, rfl⟩ (by decide) rfl rfl (Nat.le_of_ble_eq_true rfl) dX11_readScale_84 h (kI (fun r1 S1 h => j_sub [1, 2, 0] rfl (JX11_readScale_87 _ _ _ _ _ h))) (fun _ _ h => h.elim))))) (fun h => j_iconst dX11_readScale_77 (j_goto (tgt := 87) dX11_readScale_78 (by decide) (j_sub [1, 2, 0] rfl (JX11_readScale_87 _ _ _ _ _ h))))))
def VX11_readScale_56 (d : Nat) (Q : Out → MS → Prop) (x0 : Nat) (t0 : Int) (S : MS) : Prop :=
  R32 t0 ∧ ((0 ≤ t0) → S.K x0 = 11 ∧ Mw hX11_number yX11_number d [vA x0, vI 0, vI 99] S (oI (fun r1 S1 => VX11_readScale_72 d Q x0 t0 r1 S1))) ∧ (¬ (0 ≤ t0) → VX11_readScale_72 d Q x0 t0 ((-1)) S)
theorem JX11_readScale_56 {d : Nat} {S0 : MS} {Q : Out → MS → Prop} (x0 : Nat) (t0 : Int) (S : MS) (h : VX11_readScale_56 d Q x0 t0 S) : Jw FinM RX11 cX11_readScale 5 (some .boolean) [] yX11_readScale (d + 1) S0 S 56 [(0, vA x0)] [vI t0] Q :=
  j_istore_n (lv2 := [(1, vI t0), (0, vA x0)]) dX11_readScale_56 (by decide) rfl (j_iload_n 0 dX11_readScale_57 rfl (j_if_ge (tgt := 65) dX11_readScale_58 (by decide) h (fun h => j_aload_n 1 dX11_readScale_65 rfl (j_iconst dX11_readScale_66 (j_bipush dX11_readScale_67 rfl (j_callV (rest := []) 11 [vI 0, vI 99] k_RX11_138 ⟨w_7_162, p_4_3⟩ ⟨_, _, rfl⟩ (by decide) rfl rfl (Nat.le_of_ble_eq_true rfl) dX11_readScale_69 h (kI (fun r1 S1 h => j_sub [1, 0] rfl (JX11_readScale_72 _ _ _ _ h))) (fun _ _ h => h.elim))))) (fun h => j_iconst dX11_readScale_61 (j_goto (tgt := 72) dX11_readScale_62 (by decide) (j_sub [1, 0] rfl (JX11_readScale_72 _ _ _ _ h))))))
def VX11_readScale_0 (d : Nat) (Q : Out → MS → Prop) (x0 : Nat) (S : MS) : Prop :=
  S.K x0 = 11 ∧ ∃ b1, S.R x0 3 = some b1 ∧ ((S.K b1 = 13 ∧ 0 ≤ (1 : Int) ∧ (1 : Int) < S.N b1) ∧ ((R32 (S.I b1 ((1 : Int)).toNat) ∧ R32 (4 : Int)) ∧ (¬ ((S.I b1 ((1 : Int)).toNat) = (4 : Int)) → S.K x0 = 11 ∧ Mw hX11_letters yX11_letters d [vA x0] S (oV (fun S2 => S2.K x0 = 11 ∧ Mw hX11_isWord yX11_isWord d [vA x0, vA (S2.T 4)] S2 (oI (fun r3 S3 => R32 r3 ∧ ((r3 = 0) → S3.K x0 = 11 ∧ Mw hX11_isWord yX11_isWord d [vA x0, vA (S3.T 5)] S3 (oI (fun r4 S4 => R32 r4 ∧ ((r4 = 0) → S4.K x0 = 11 ∧ Mw hX11_isWord yX11_isWord d [vA x0, vA (S4.T 6)] S4 (oI (fun r5 S5 => R32 r5 ∧ ((r5 = 0) → VX11_readScale_56 d Q x0 ((-1)) S5) ∧ (¬ (r5 = 0) → VX11_readScale_56 d Q x0 2 S5)))) ∧ (¬ (r4 = 0) → VX11_readScale_56 d Q x0 1 S4)))) ∧ (¬ (r3 = 0) → VX11_readScale_56 d Q x0 0 S3)))))) ∧ (((S.I b1 ((1 : Int)).toNat) = (4 : Int)) → B01 0 ∧ Q (.inl (some (vI 0))) S)))
theorem JX11_readScale_0 {d : Nat} {S0 : MS} {Q : Out → MS → Prop} (x0 : Nat) (S : MS) (h : VX11_readScale_0 d Q x0 S) : Jw FinM RX11 cX11_readScale 5 (some .boolean) [] yX11_readScale (d + 1) S0 S 0 [(0, vA x0)] [] Q :=
  j_aload_n 0 dX11_readScale_0 rfl (j_getR 11 3 f_RX11_20 dX11_readScale_1 h (fun b1 h => j_iconst dX11_readScale_4 (j_iald dX11_readScale_5 h (fun h => j_iconst dX11_readScale_6 (j_icmp_ne (tgt := 12) dX11_readScale_7 (by decide) h (fun h => j_aload_n 0 dX11_readScale_12 rfl (j_callV (rest := []) 11 [] k_RX11_145 ⟨w_7_147, p_4_0⟩ ⟨_, _, rfl⟩ (by decide) rfl rfl (Nat.le_of_ble_eq_true rfl) dX11_readScale_13 h (kV (fun S2 h => j_aload_n 0 dX11_readScale_16 rfl (j_ldcS (List.mem_of_getElem? (i := 8) rfl) dX11_readScale_17 (j_callV (rest := []) 11 [vA (S2.T 4)] k_RX11_150 ⟨w_7_152, p_4_1⟩ ⟨_, _, rfl⟩ (by decide) rfl rfl (Nat.le_of_ble_eq_true rfl) dX11_readScale_19 h (kI (fun r3 S3 h => j_if_eq (tgt := 29) dX11_readScale_22 (by decide) h (fun h => j_aload_n 0 dX11_readScale_29 rfl (j_ldcS (List.mem_of_getElem? (i := 9) rfl) dX11_readScale_30 (j_callV (rest := []) 11 [vA (S3.T 5)] k_RX11_150 ⟨w_7_152, p_4_1⟩ ⟨_, _, rfl⟩ (by decide) rfl rfl (Nat.le_of_ble_eq_true rfl) dX11_readScale_32 h (kI (fun r4 S4 h => j_if_eq (tgt := 42) dX11_readScale_35 (by decide) h (fun h => j_aload_n 0 dX11_readScale_42 rfl (j_ldcS (List.mem_of_getElem? (i := 10) rfl) dX11_readScale_43 (j_callV (rest := []) 11 [vA (S4.T 6)] k_RX11_150 ⟨w_7_152, p_4_1⟩ ⟨_, _, rfl⟩ (by decide) rfl rfl (Nat.le_of_ble_eq_true rfl) dX11_readScale_45 h (kI (fun r5 S5 h => j_if_eq (tgt := 55) dX11_readScale_48 (by decide) h (fun h => j_iconst dX11_readScale_55 (JX11_readScale_56 _ _ _ h)) (fun h => j_iconst dX11_readScale_51 (j_goto (tgt := 56) dX11_readScale_52 (by decide) (JX11_readScale_56 _ _ _ h))))) (fun _ _ h => h.elim)))) (fun h => j_iconst dX11_readScale_38 (j_goto (tgt := 56) dX11_readScale_39 (by decide) (JX11_readScale_56 _ _ _ h))))) (fun _ _ h => h.elim)))) (fun h => j_iconst dX11_readScale_25 (j_goto (tgt := 56) dX11_readScale_26 (by decide) (JX11_readScale_56 _ _ _ h))))) (fun _ _ h => h.elim))))) (fun _ _ h => h.elim))) (fun h => j_iconst dX11_readScale_10 (j_zret rfl dX11_readScale_11 h)))))))
theorem MX11_readScale {d : Nat} {x0 : Nat} {S : MS} {Q : Out → MS → Prop} (h : VX11_readScale_0 d Q x0 S) : Mw hX11_readScale yX11_readScale (d + 1) [vA x0] S Q := Mw.ofJ (by decide) (Nat.le_of_ble_eq_true rfl) (JX11_readScale_0 _ S h)
theorem dX11_readNote_0 : decode cX11_readNote 0 = .ok (.aload_n 0, 1) := by decide +kernel
theorem dX11_readNote_1 : decode cX11_readNote 1 = .ok (.getfield 20, 3) := by decide +kernel
theorem dX11_readNote_4 : decode cX11_readNote 4 = .ok (.iconst 2, 1) := by decide +kernel
theorem dX11_readNote_5 : decode cX11_readNote 5 = .ok (.iaload, 1) := by decide +kernel
theorem dX11_readNote_6 : decode cX11_readNote 6 = .ok (.bipush 16, 2) := by decide +kernel
theorem dX11_readNote_8 : decode cX11_readNote 8 = .ok (.if_icmp .ne 5, 3) := by decide +kernel
theorem dX11_readNote_11 : decode cX11_readNote 11 = .ok (.iconst 0, 1) := by decide +kernel
theorem dX11_readNote_12 : decode cX11_readNote 12 = .ok (.ireturn, 1) := by decide +kernel
theorem dX11_readNote_13 : decode cX11_readNote 13 = .ok (.aload_n 0, 1) := by decide +kernel
theorem dX11_readNote_14 : decode cX11_readNote 14 = .ok (.iconst 0, 1) := by decide +kernel
theorem dX11_readNote_15 : decode cX11_readNote 15 = .ok (.aload_n 0, 1) := by decide +kernel
theorem dX11_readNote_16 : decode cX11_readNote 16 = .ok (.getfield 20, 3) := by decide +kernel
theorem dX11_readNote_19 : decode cX11_readNote 19 = .ok (.iconst 1, 1) := by decide +kernel
theorem dX11_readNote_20 : decode cX11_readNote 20 = .ok (.iaload, 1) := by decide +kernel
theorem dX11_readNote_21 : decode cX11_readNote 21 = .ok (.iconst 1, 1) := by decide +kernel
theorem dX11_readNote_22 : decode cX11_readNote 22 = .ok (.isub, 1) := by decide +kernel
theorem dX11_readNote_23 : decode cX11_readNote 23 = .ok (.invokevirtual 138, 3) := by decide +kernel
theorem dX11_readNote_26 : decode cX11_readNote 26 = .ok (.istore_n 1, 1) := by decide +kernel
theorem dX11_readNote_27 : decode cX11_readNote 27 = .ok (.iload_n 1, 1) := by decide +kernel
theorem dX11_readNote_28 : decode cX11_readNote 28 = .ok (.ifCond .ge 5, 3) := by decide +kernel
theorem dX11_readNote_31 : decode cX11_readNote 31 = .ok (.iconst 0, 1) := by decide +kernel
theorem dX11_readNote_32 : decode cX11_readNote 32 = .ok (.ireturn, 1) := by decide +kernel
theorem dX11_readNote_33 : decode cX11_readNote 33 = .ok (.iconst 0, 1) := by decide +kernel
theorem dX11_readNote_34 : decode cX11_readNote 34 = .ok (.istore_n 2, 1) := by decide +kernel
theorem dX11_readNote_35 : decode cX11_readNote 35 = .ok (.aload_n 0, 1) := by decide +kernel
theorem dX11_readNote_36 : decode cX11_readNote 36 = .ok (.getfield 20, 3) := by decide +kernel
theorem dX11_readNote_39 : decode cX11_readNote 39 = .ok (.bipush 11, 2) := by decide +kernel
theorem dX11_readNote_41 : decode cX11_readNote 41 = .ok (.iconst 3, 1) := by decide +kernel
theorem dX11_readNote_42 : decode cX11_readNote 42 = .ok (.iload_n 1, 1) := by decide +kernel
theorem dX11_readNote_43 : decode cX11_readNote 43 = .ok (.imul, 1) := by decide +kernel
theorem dX11_readNote_44 : decode cX11_readNote 44 = .ok (.iadd, 1) := by decide +kernel
theorem dX11_readNote_45 : decode cX11_readNote 45 = .ok (.iaload, 1) := by decide +kernel
theorem dX11_readNote_46 : decode cX11_readNote 46 = .ok (.invokestatic 98, 3) := by decide +kernel
theorem dX11_readNote_49 : decode cX11_readNote 49 = .ok (.istore_n 3, 1) := by decide +kernel
theorem dX11_readNote_50 : decode cX11_readNote 50 = .ok (.iload_n 3, 1) := by decide +kernel
theorem dX11_readNote_51 : decode cX11_readNote 51 = .ok (.ifCond .le 44, 3) := by decide +kernel
theorem dX11_readNote_54 : decode cX11_readNote 54 = .ok (.aload_n 0, 1) := by decide +kernel
theorem dX11_readNote_55 : decode cX11_readNote 55 = .ok (.iconst 0, 1) := by decide +kernel
theorem dX11_readNote_56 : decode cX11_readNote 56 = .ok (.aload_n 0, 1) := by decide +kernel
theorem dX11_readNote_57 : decode cX11_readNote 57 = .ok (.invokevirtual 158, 3) := by decide +kernel
theorem dX11_readNote_60 : decode cX11_readNote 60 = .ok (.invokevirtual 138, 3) := by decide +kernel
theorem dX11_readNote_63 : decode cX11_readNote 63 = .ok (.istore 4, 2) := by decide +kernel
theorem dX11_readNote_65 : decode cX11_readNote 65 = .ok (.iload 4, 2) := by decide +kernel
theorem dX11_readNote_67 : decode cX11_readNote 67 = .ok (.ifCond .lt 13, 3) := by decide +kernel
theorem dX11_readNote_70 : decode cX11_readNote 70 = .ok (.iload_n 2, 1) := by decide +kernel
theorem dX11_readNote_71 : decode cX11_readNote 71 = .ok (.iload 4, 2) := by decide +kernel
theorem dX11_readNote_73 : decode cX11_readNote 73 = .ok (.ishr, 1) := by decide +kernel
theorem dX11_readNote_74 : decode cX11_readNote 74 = .ok (.iconst 1, 1) := by decide +kernel
theorem dX11_readNote_75 : decode cX11_readNote 75 = .ok (.iand, 1) := by decide +kernel
theorem dX11_readNote_76 : decode cX11_readNote 76 = .ok (.iconst 1, 1) := by decide +kernel
theorem dX11_readNote_77 : decode cX11_readNote 77 = .ok (.if_icmp .ne 5, 3) := by decide +kernel
theorem dX11_readNote_80 : decode cX11_readNote 80 = .ok (.iconst 0, 1) := by decide +kernel
theorem dX11_readNote_81 : decode cX11_readNote 81 = .ok (.ireturn, 1) := by decide +kernel
theorem dX11_readNote_82 : decode cX11_readNote 82 = .ok (.iload_n 2, 1) := by decide +kernel
theorem dX11_readNote_83 : decode cX11_readNote 83 = .ok (.iconst 1, 1) := by decide +kernel
theorem dX11_readNote_84 : decode cX11_readNote 84 = .ok (.iload 4, 2) := by decide +kernel
theorem dX11_readNote_86 : decode cX11_readNote 86 = .ok (.ishl, 1) := by decide +kernel
theorem dX11_readNote_87 : decode cX11_readNote 87 = .ok (.ior, 1) := by decide +kernel
theorem dX11_readNote_88 : decode cX11_readNote 88 = .ok (.istore_n 2, 1) := by decide +kernel
theorem dX11_readNote_89 : decode cX11_readNote 89 = .ok (.iinc 3 (-1), 3) := by decide +kernel
theorem dX11_readNote_92 : decode cX11_readNote 92 = .ok (.goto (-42), 3) := by decide +kernel
theorem dX11_readNote_95 : decode cX11_readNote 95 = .ok (.aload_n 0, 1) := by decide +kernel
theorem dX11_readNote_96 : decode cX11_readNote 96 = .ok (.invokevirtual 145, 3) := by decide +kernel
theorem dX11_readNote_99 : decode cX11_readNote 99 = .ok (.aload_n 0, 1) := by decide +kernel
theorem dX11_readNote_100 : decode cX11_readNote 100 = .ok (.ldc 161, 2) := by decide +kernel
theorem dX11_readNote_102 : decode cX11_readNote 102 = .ok (.invokevirtual 150, 3) := by decide +kernel
theorem dX11_readNote_105 : decode cX11_readNote 105 = .ok (.ifCond .ne 5, 3) := by decide +kernel
theorem dX11_readNote_108 : decode cX11_readNote 108 = .ok (.iconst 0, 1) := by decide +kernel
theorem dX11_readNote_109 : decode cX11_readNote 109 = .ok (.ireturn, 1) := by decide +kernel
theorem dX11_readNote_110 : decode cX11_readNote 110 = .ok (.aload_n 0, 1) := by decide +kernel
theorem dX11_readNote_111 : decode cX11_readNote 111 = .ok (.iconst 0, 1) := by decide +kernel
theorem dX11_readNote_112 : decode cX11_readNote 112 = .ok (.aload_n 0, 1) := by decide +kernel
theorem dX11_readNote_113 : decode cX11_readNote 113 = .ok (.invokevirtual 158, 3) := by decide +kernel
theorem dX11_readNote_116 : decode cX11_readNote 116 = .ok (.invokevirtual 138, 3) := by decide +kernel
theorem dX11_readNote_119 : decode cX11_readNote 119 = .ok (.istore_n 3, 1) := by decide +kernel
theorem dX11_readNote_120 : decode cX11_readNote 120 = .ok (.iload_n 3, 1) := by decide +kernel
theorem dX11_readNote_121 : decode cX11_readNote 121 = .ok (.ifCond .lt 11, 3) := by decide +kernel
theorem dX11_readNote_124 : decode cX11_readNote 124 = .ok (.iload_n 2, 1) := by decide +kernel
theorem dX11_readNote_125 : decode cX11_readNote 125 = .ok (.iload_n 3, 1) := by decide +kernel
theorem dX11_readNote_126 : decode cX11_readNote 126 = .ok (.ishr, 1) := by decide +kernel
theorem dX11_readNote_127 : decode cX11_readNote 127 = .ok (.iconst 1, 1) := by decide +kernel
theorem dX11_readNote_128 : decode cX11_readNote 128 = .ok (.iand, 1) := by decide +kernel
theorem dX11_readNote_129 : decode cX11_readNote 129 = .ok (.ifCond .ne 5, 3) := by decide +kernel
theorem dX11_readNote_132 : decode cX11_readNote 132 = .ok (.iconst 0, 1) := by decide +kernel
theorem dX11_readNote_133 : decode cX11_readNote 133 = .ok (.ireturn, 1) := by decide +kernel
theorem dX11_readNote_134 : decode cX11_readNote 134 = .ok (.bipush 23, 2) := by decide +kernel
theorem dX11_readNote_136 : decode cX11_readNote 136 = .ok (.iconst 3, 1) := by decide +kernel
theorem dX11_readNote_137 : decode cX11_readNote 137 = .ok (.aload_n 0, 1) := by decide +kernel
theorem dX11_readNote_138 : decode cX11_readNote 138 = .ok (.getfield 20, 3) := by decide +kernel
theorem dX11_readNote_141 : decode cX11_readNote 141 = .ok (.iconst 2, 1) := by decide +kernel
theorem dX11_readNote_142 : decode cX11_readNote 142 = .ok (.iaload, 1) := by decide +kernel
theorem dX11_readNote_143 : decode cX11_readNote 143 = .ok (.imul, 1) := by decide +kernel
theorem dX11_readNote_144 : decode cX11_readNote 144 = .ok (.iadd, 1) := by decide +kernel
theorem dX11_readNote_145 : decode cX11_readNote 145 = .ok (.istore 4, 2) := by decide +kernel
theorem dX11_readNote_147 : decode cX11_readNote 147 = .ok (.aload_n 0, 1) := by decide +kernel
theorem dX11_readNote_148 : decode cX11_readNote 148 = .ok (.getfield 20, 3) := by decide +kernel
theorem dX11_readNote_151 : decode cX11_readNote 151 = .ok (.iload 4, 2) := by decide +kernel
theorem dX11_readNote_153 : decode cX11_readNote 153 = .ok (.iload_n 1, 1) := by decide +kernel
theorem dX11_readNote_154 : decode cX11_readNote 154 = .ok (.iastore, 1) := by decide +kernel
theorem dX11_readNote_155 : decode cX11_readNote 155 = .ok (.aload_n 0, 1) := by decide +kernel
theorem dX11_readNote_156 : decode cX11_readNote 156 = .ok (.getfield 20, 3) := by decide +kernel
theorem dX11_readNote_159 : decode cX11_readNote 159 = .ok (.iload 4, 2) := by decide +kernel
theorem dX11_readNote_161 : decode cX11_readNote 161 = .ok (.iconst 1, 1) := by decide +kernel
theorem dX11_readNote_162 : decode cX11_readNote 162 = .ok (.iadd, 1) := by decide +kernel
theorem dX11_readNote_163 : decode cX11_readNote 163 = .ok (.iload_n 2, 1) := by decide +kernel
theorem dX11_readNote_164 : decode cX11_readNote 164 = .ok (.iastore, 1) := by decide +kernel
theorem dX11_readNote_165 : decode cX11_readNote 165 = .ok (.aload_n 0, 1) := by decide +kernel
theorem dX11_readNote_166 : decode cX11_readNote 166 = .ok (.getfield 20, 3) := by decide +kernel
theorem dX11_readNote_169 : decode cX11_readNote 169 = .ok (.iload 4, 2) := by decide +kernel
theorem dX11_readNote_171 : decode cX11_readNote 171 = .ok (.iconst 2, 1) := by decide +kernel
theorem dX11_readNote_172 : decode cX11_readNote 172 = .ok (.iadd, 1) := by decide +kernel
theorem dX11_readNote_173 : decode cX11_readNote 173 = .ok (.iload_n 3, 1) := by decide +kernel
theorem dX11_readNote_174 : decode cX11_readNote 174 = .ok (.iastore, 1) := by decide +kernel
theorem dX11_readNote_175 : decode cX11_readNote 175 = .ok (.aload_n 0, 1) := by decide +kernel
theorem dX11_readNote_176 : decode cX11_readNote 176 = .ok (.getfield 20, 3) := by decide +kernel
theorem dX11_readNote_179 : decode cX11_readNote 179 = .ok (.iconst 2, 1) := by decide +kernel
theorem dX11_readNote_180 : decode cX11_readNote 180 = .ok (.dup2, 1) := by decide +kernel
theorem dX11_readNote_181 : decode cX11_readNote 181 = .ok (.iaload, 1) := by decide +kernel
theorem dX11_readNote_182 : decode cX11_readNote 182 = .ok (.iconst 1, 1) := by decide +kernel
theorem dX11_readNote_183 : decode cX11_readNote 183 = .ok (.iadd, 1) := by decide +kernel
theorem dX11_readNote_184 : decode cX11_readNote 184 = .ok (.iastore, 1) := by decide +kernel
theorem dX11_readNote_185 : decode cX11_readNote 185 = .ok (.iconst 1, 1) := by decide +kernel
theorem dX11_readNote_186 : decode cX11_readNote 186 = .ok (.ireturn, 1) := by decide +kernel
def VX11_readNote_50 (d : Nat) (Q : Out → MS → Prop) : Nat → Nat → Int → Int → Int → MS → Prop
  | 0, _, _, _, _, _ => False
  | n + 1, x0, x1, x2, x3, S => R32 x3 ∧ ((x3 ≤ 0) → S.K x0 = 11 ∧ Mw hX11_letters yX11_letters d [vA x0] S (oV (fun S1 => S1.K x0 = 11 ∧ Mw hX11_isWord yX11_isWord d [vA x0, vA (S1.T 7)] S1 (oI (fun r2 S2 => R32 r2 ∧ (¬ (r2 = 0) → S2.K x0 = 11 ∧ Mw hX11_drafted yX11_drafted d [vA x0] S2 (oI (fun r3 S3 => S3.K x0 = 11 ∧ Mw hX11_number yX11_number d [vA x0, vI 0, vI r3] S3 (oI (fun r4 S4 => R32 r4 ∧ ((r4 < 0) → B01 0 ∧ Q (.inl (some (vI 0))) S4) ∧ (¬ (r4 < 0) → R32 (iAnd (iShr x2 r4) 1) ∧ (¬ ((iAnd (iShr x2 r4) 1) = 0) → S4.K x0 = 11 ∧ ∃ b5, S4.R x0 3 = some b5 ∧ ((S4.K b5 = 13 ∧ 0 ≤ (2 : Int) ∧ (2 : Int) < S4.N b5) ∧ (S4.K x0 = 11 ∧ ∃ b6, S4.R x0 3 = some b6 ∧ ((S4.K b6 = 13 ∧ 0 ≤ (23 + (3 * (S4.I b5 ((2 : Int)).toNat))) ∧ (23 + (3 * (S4.I b5 ((2 : Int)).toNat))) < S4.N b6) ∧ ((S4.setI b6 ((23 + (3 * (S4.I b5 ((2 : Int)).toNat)))).toNat x1).K x0 = 11 ∧ ∃ b7, (S4.setI b6 ((23 + (3 * (S4.I b5 ((2 : Int)).toNat)))).toNat x1).R x0 3 = some b7 ∧ (((S4.setI b6 ((23 + (3 * (S4.I b5 ((2 : Int)).toNat)))).toNat x1).K b7 = 13 ∧ 0 ≤ ((23 + (3 * (S4.I b5 ((2 : Int)).toNat))) + 1) ∧ ((23 + (3 * (S4.I b5 ((2 : Int)).toNat))) + 1) < (S4.setI b6 ((23 + (3 * (S4.I b5 ((2 : Int)).toNat)))).toNat x1).N b7) ∧ (∀ S8 : MS, S8 = (S4.setI b6 ((23 + (3 * (S4.I b5 ((2 : Int)).toNat)))).toNat x1).setI b7 (((23 + (3 * (S4.I b5 ((2 : Int)).toNat))) + 1)).toNat x2 → S8.K x0 = 11 ∧ ∃ b9, S8.R x0 3 = some b9 ∧ ((S8.K b9 = 13 ∧ 0 ≤ ((23 + (3 * (S4.I b5 ((2 : Int)).toNat))) + 2) ∧ ((23 + (3 * (S4.I b5 ((2 : Int)).toNat))) + 2) < S8.N b9) ∧ ((S8.setI b9 (((23 + (3 * (S4.I b5 ((2 : Int)).toNat))) + 2)).toNat r4).K x0 = 11 ∧ ∃ b10, (S8.setI b9 (((23 + (3 * (S4.I b5 ((2 : Int)).toNat))) + 2)).toNat r4).R x0 3 = some b10 ∧ (((S8.setI b9 (((23 + (3 * (S4.I b5 ((2 : Int)).toNat))) + 2)).toNat r4).K b10 = 13 ∧ 0 ≤ (2 : Int) ∧ (2 : Int) < (S8.setI b9 (((23 + (3 * (S4.I b5 ((2 : Int)).toNat))) + 2)).toNat r4).N b10) ∧ (((S8.setI b9 (((23 + (3 * (S4.I b5 ((2 : Int)).toNat))) + 2)).toNat r4).K b10 = 13 ∧ 0 ≤ (2 : Int) ∧ (2 : Int) < (S8.setI b9 (((23 + (3 * (S4.I b5 ((2 : Int)).toNat))) + 2)).toNat r4).N b10) ∧ (∀ S11 : MS, S11 = (S8.setI b9 (((23 + (3 * (S4.I b5 ((2 : Int)).toNat))) + 2)).toNat r4).setI b10 ((2 : Int)).toNat (((S8.setI b9 (((23 + (3 * (S4.I b5 ((2 : Int)).toNat))) + 2)).toNat r4).I b10 ((2 : Int)).toNat) + 1) → B01 1 ∧ Q (.inl (some (vI 1))) S11)))))))))))) ∧ (((iAnd (iShr x2 r4) 1) = 0) → B01 0 ∧ Q (.inl (some (vI 0))) S4))))))) ∧ ((r2 = 0) → B01 0 ∧ Q (.inl (some (vI 0))) S2)))))) ∧ (¬ (x3 ≤ 0) → S.K x0 = 11 ∧ Mw hX11_drafted yX11_drafted d [vA x0] S (oI (fun r12 S12 => S12.K x0 = 11 ∧ Mw hX11_number yX11_number d [vA x0, vI 0, vI r12] S12 (oI (fun r13 S13 => R32 r13 ∧ ((r13 < 0) → B01 0 ∧ Q (.inl (some (vI 0))) S13) ∧ (¬ (r13 < 0) → (R32 (iAnd (iShr x2 r13) 1) ∧ R32 (1 : Int)) ∧ (¬ ((iAnd (iShr x2 r13) 1) = (1 : Int)) → (VX11_readNote_50 d Q n) x0 x1 (iOr x2 (iShl 1 r13)) (x3 + (-1)) S13) ∧ (((iAnd (iShr x2 r13) 1) = (1 : Int)) → B01 0 ∧ Q (.inl (some (vI 0))) S13)))))))
theorem JX11_readNote_50 {d : Nat} {S0 : MS} {Q : Out → MS → Prop} : ∀ (n : Nat) (x0 : Nat) (x1 : Int) (x2 : Int) (x3 : Int) (S : MS), VX11_readNote_50 d Q n x0 x1 x2 x3 S → Jw FinM RX11 cX11_readNote 5 (some .boolean) [] yX11_readNote (d + 1) S0 S 50 [(0, vA x0), (1, vI x1), (2, vI x2), (3, vI x3)] [] Q := by
  intro n
  induction n with
  | zero => intro x0 x1 x2 x3 S h; exact h.elim
  | succ n ih =>
    intro x0 x1 x2 x3 S h
    exact j_iload_n 3 dX11_readNote_50 rfl (j_if_le (tgt := 95) dX11_readNote_51 (by decide) h (fun h => j_aload_n 0 dX11_readNote_95 rfl (j_callV (rest := []) 11 [] k_RX11_145 ⟨w_7_147, p_4_0⟩ ⟨_, _, rfl⟩ (by decide) rfl rfl (Nat.le_of_ble_eq_true rfl) dX11_readNote_96 h (kV (fun S1 h => j_aload_n 0 dX11_readNote_99 rfl (j_ldcS (List.mem_of_getElem? (i := 11) rfl) dX11_readNote_100 (j_callV (rest := []) 11 [vA (S1.T 7)] k_RX11_150 ⟨w_7_152, p_4_1⟩ ⟨_, _, rfl⟩ (by decide) rfl rfl (Nat.le_of_ble_eq_true rfl) dX11_readNote_102 h (kI (fun r2 S2 h => j_if_ne (tgt := 110) dX11_readNote_105 (by decide) h (fun h => j_aload_n 0 dX11_readNote_110 rfl (j_iconst dX11_readNote_111 (j_aload_n 0 dX11_readNote_112 rfl (j_callV (rest := [vI 0, vA x0]) 11 [] k_RX11_158 ⟨w_7_185, p_4_6⟩ ⟨_, _, rfl⟩ (by decide) rfl rfl (Nat.le_of_ble_eq_true rfl) dX11_readNote_113 h (kI (fun r3 S3 h => j_callV (rest := []) 11 [vI 0, vI r3] k_RX11_138 ⟨w_7_162, p_4_3⟩ ⟨_, _, rfl⟩ (by decide) rfl rfl (Nat.le_of_ble_eq_true rfl) dX11_readNote_116 h (kI (fun r4 S4 h => j_istore_n (lv2 := [(3, vI r4), (0, vA x0), (1, vI x1), (2, vI x2)]) dX11_readNote_119 (by decide) rfl (j_iload_n 0 dX11_readNote_120 rfl (j_if_lt (tgt := 132) dX11_readNote_121 (by decide) h (fun h => j_iconst dX11_readNote_132 (j_zret rfl dX11_readNote_133 h)) (fun h => j_iload_n 3 dX11_readNote_124 rfl (j_iload_n 0 dX11_readNote_125 rfl (j_ishr dX11_readNote_126 (j_iconst dX11_readNote_127 (j_iand dX11_readNote_128 (j_if_ne (tgt := 134) dX11_readNote_129 (by decide) h (fun h => j_bipush dX11_readNote_134 rfl (j_iconst dX11_readNote_136 (j_aload_n 1 dX11_readNote_137 rfl (j_getR 11 3 f_RX11_20 dX11_readNote_138 h (fun b5 h => j_iconst dX11_readNote_141 (j_iald dX11_readNote_142 h (fun h => j_imul dX11_readNote_143 (j_iadd dX11_readNote_144 (j_istore (lv2 := [(4, vI (23 + (3 * (S4.I b5 ((2 : Int)).toNat)))), (3, vI r4), (0, vA x0), (1, vI x1), (2, vI x2)]) dX11_readNote_145 (by decide) rfl (j_aload_n 2 dX11_readNote_147 rfl (j_getR 11 3 f_RX11_20 dX11_readNote_148 h (fun b6 h => j_iload 0 dX11_readNote_151 rfl (j_iload_n 3 dX11_readNote_153 rfl (j_iast dX11_readNote_154 h (fun h => j_aload_n 2 dX11_readNote_155 rfl (j_getR 11 3 f_RX11_20 dX11_readNote_156 h (fun b7 h => j_iload 0 dX11_readNote_159 rfl (j_iconst dX11_readNote_161 (j_iadd dX11_readNote_162 (j_iload_n 4 dX11_readNote_163 rfl (j_iast dX11_readNote_164 h (fun h => j_bind h (fun S8 h => j_aload_n 2 dX11_readNote_165 rfl (j_getR 11 3 f_RX11_20 dX11_readNote_166 h (fun b9 h => j_iload 0 dX11_readNote_169 rfl (j_iconst dX11_readNote_171 (j_iadd dX11_readNote_172 (j_iload_n 1 dX11_readNote_173 rfl (j_iast dX11_readNote_174 h (fun h => j_aload_n 2 dX11_readNote_175 rfl (j_getR 11 3 f_RX11_20 dX11_readNote_176 h (fun b10 h => j_iconst dX11_readNote_179 (j_dup2 rfl rfl dX11_readNote_180 (j_iald dX11_readNote_181 h (fun h => j_iconst dX11_readNote_182 (j_iadd dX11_readNote_183 (j_iast dX11_readNote_184 h (fun h => j_bind h (fun S11 h => j_iconst dX11_readNote_185 (j_zret rfl dX11_readNote_186 h)))))))))))))))))))))))))))))))))))))))) (fun h => j_iconst dX11_readNote_132 (j_zret rfl dX11_readNote_133 h)))))))))))) (fun _ _ h => h.elim))) (fun _ _ h => h.elim))))) (fun h => j_iconst dX11_readNote_108 (j_zret rfl dX11_readNote_109 h)))) (fun _ _ h => h.elim))))) (fun _ _ h => h.elim))) (fun h => j_aload_n 0 dX11_readNote_54 rfl (j_iconst dX11_readNote_55 (j_aload_n 0 dX11_readNote_56 rfl (j_callV (rest := [vI 0, vA x0]) 11 [] k_RX11_158 ⟨w_7_185, p_4_6⟩ ⟨_, _, rfl⟩ (by decide) rfl rfl (Nat.le_of_ble_eq_true rfl) dX11_readNote_57 h (kI (fun r12 S12 h => j_callV (rest := []) 11 [vI 0, vI r12] k_RX11_138 ⟨w_7_162, p_4_3⟩ ⟨_, _, rfl⟩ (by decide) rfl rfl (Nat.le_of_ble_eq_true rfl) dX11_readNote_60 h (kI (fun r13 S13 h => j_istore (lv2 := [(4, vI r13), (0, vA x0), (1, vI x1), (2, vI x2), (3, vI x3)]) dX11_readNote_63 (by decide) rfl (j_iload 0 dX11_readNote_65 rfl (j_if_lt (tgt := 80) dX11_readNote_67 (by decide) h (fun h => j_iconst dX11_readNote_80 (j_zret rfl dX11_readNote_81 h)) (fun h => j_iload_n 3 dX11_readNote_70 rfl (j_iload 0 dX11_readNote_71 rfl (j_ishr dX11_readNote_73 (j_iconst dX11_readNote_74 (j_iand dX11_readNote_75 (j_iconst dX11_readNote_76 (j_icmp_ne (tgt := 82) dX11_readNote_77 (by decide) h (fun h => j_iload_n 3 dX11_readNote_82 rfl (j_iconst dX11_readNote_83 (j_iload 0 dX11_readNote_84 rfl (j_ishl dX11_readNote_86 (j_ior dX11_readNote_87 (j_istore_n (lv2 := [(2, vI (iOr x2 (iShl 1 r13))), (4, vI r13), (0, vA x0), (1, vI x1), (3, vI x3)]) dX11_readNote_88 (by decide) rfl (j_iinc 4 (lv2 := [(3, vI (x3 + (-1))), (2, vI (iOr x2 (iShl 1 r13))), (4, vI r13), (0, vA x0), (1, vI x1)]) dX11_readNote_89 rfl (by decide) rfl (j_goto (tgt := 50) dX11_readNote_92 (by decide) (j_sub [3, 4, 1, 0] rfl (ih _ _ _ _ _ h)))))))))) (fun h => j_iconst dX11_readNote_80 (j_zret rfl dX11_readNote_81 h))))))))))))) (fun _ _ h => h.elim))) (fun _ _ h => h.elim))))))
def VX11_readNote_0 (d : Nat) (Q : Out → MS → Prop) (x0 : Nat) (S : MS) : Prop :=
  S.K x0 = 11 ∧ ∃ b1, S.R x0 3 = some b1 ∧ ((S.K b1 = 13 ∧ 0 ≤ (2 : Int) ∧ (2 : Int) < S.N b1) ∧ ((R32 (S.I b1 ((2 : Int)).toNat) ∧ R32 (16 : Int)) ∧ (¬ ((S.I b1 ((2 : Int)).toNat) = (16 : Int)) → S.K x0 = 11 ∧ ∃ b2, S.R x0 3 = some b2 ∧ ((S.K b2 = 13 ∧ 0 ≤ (1 : Int) ∧ (1 : Int) < S.N b2) ∧ (S.K x0 = 11 ∧ Mw hX11_number yX11_number d [vA x0, vI 0, vI ((S.I b2 ((1 : Int)).toNat) - 1)] S (oI (fun r3 S3 => R32 r3 ∧ ((0 ≤ r3) → S3.K x0 = 11 ∧ ∃ b4, S3.R x0 3 = some b4 ∧ ((S3.K b4 = 13 ∧ 0 ≤ (11 + (3 * r3)) ∧ (11 + (3 * r3)) < S3.N b4) ∧ (Mw hX11_pansOf yX11_pansOf d [vI (S3.I b4 ((11 + (3 * r3))).toNat)] S3 (oI (fun r5 S5 => ∃ m, VX11_readNote_50 d Q m x0 r3 0 r5 S5))))) ∧ (¬ (0 ≤ r3) → B01 0 ∧ Q (.inl (some (vI 0))) S3)))))) ∧ (((S.I b1 ((2 : Int)).toNat) = (16 : Int)) → B01 0 ∧ Q (.inl (some (vI 0))) S)))
theorem JX11_readNote_0 {d : Nat} {S0 : MS} {Q : Out → MS → Prop} (x0 : Nat) (S : MS) (h : VX11_readNote_0 d Q x0 S) : Jw FinM RX11 cX11_readNote 5 (some .boolean) [] yX11_readNote (d + 1) S0 S 0 [(0, vA x0)] [] Q :=
  j_aload_n 0 dX11_readNote_0 rfl (j_getR 11 3 f_RX11_20 dX11_readNote_1 h (fun b1 h => j_iconst dX11_readNote_4 (j_iald dX11_readNote_5 h (fun h => j_bipush dX11_readNote_6 rfl (j_icmp_ne (tgt := 13) dX11_readNote_8 (by decide) h (fun h => j_aload_n 0 dX11_readNote_13 rfl (j_iconst dX11_readNote_14 (j_aload_n 0 dX11_readNote_15 rfl (j_getR 11 3 f_RX11_20 dX11_readNote_16 h (fun b2 h => j_iconst dX11_readNote_19 (j_iald dX11_readNote_20 h (fun h => j_iconst dX11_readNote_21 (j_isub dX11_readNote_22 (j_callV (rest := []) 11 [vI 0, vI ((S.I b2 ((1 : Int)).toNat) - 1)] k_RX11_138 ⟨w_7_162, p_4_3⟩ ⟨_, _, rfl⟩ (by decide) rfl rfl (Nat.le_of_ble_eq_true rfl) dX11_readNote_23 h (kI (fun r3 S3 h => j_istore_n (lv2 := [(1, vI r3), (0, vA x0)]) dX11_readNote_26 (by decide) rfl (j_iload_n 0 dX11_readNote_27 rfl (j_if_ge (tgt := 33) dX11_readNote_28 (by decide) h (fun h => j_iconst dX11_readNote_33 (j_istore_n (lv2 := [(2, vI 0), (1, vI r3), (0, vA x0)]) dX11_readNote_34 (by decide) rfl (j_aload_n 2 dX11_readNote_35 rfl (j_getR 11 3 f_RX11_20 dX11_readNote_36 h (fun b4 h => j_bipush dX11_readNote_39 rfl (j_iconst dX11_readNote_41 (j_iload_n 1 dX11_readNote_42 rfl (j_imul dX11_readNote_43 (j_iadd dX11_readNote_44 (j_iald dX11_readNote_45 h (fun h => j_callS (rest := []) [vI (S3.I b4 ((11 + (3 * r3))).toNat)] k_RX11_98 w_7_181 rfl rfl (Nat.le_of_ble_eq_true rfl) dX11_readNote_46 h (kI (fun r5 S5 h => j_istore_n (lv2 := [(3, vI r5), (2, vI 0), (1, vI r3), (0, vA x0)]) dX11_readNote_49 (by decide) rfl (Exists.elim h (fun m h => j_sub [3, 2, 1, 0] rfl (JX11_readNote_50 m _ _ _ _ _ h))))) (fun _ _ h => h.elim)))))))))))) (fun h => j_iconst dX11_readNote_31 (j_zret rfl dX11_readNote_32 h)))))) (fun _ _ h => h.elim)))))))))) (fun h => j_iconst dX11_readNote_11 (j_zret rfl dX11_readNote_12 h)))))))
theorem MX11_readNote {d : Nat} {x0 : Nat} {S : MS} {Q : Out → MS → Prop} (h : VX11_readNote_0 d Q x0 S) : Mw hX11_readNote yX11_readNote (d + 1) [vA x0] S Q := Mw.ofJ (by decide) (Nat.le_of_ble_eq_true rfl) (JX11_readNote_0 _ S h)
theorem dX11_readLine_0 : decode cX11_readLine 0 = .ok (.aload_n 0, 1) := by decide +kernel
theorem dX11_readLine_1 : decode cX11_readLine 1 = .ok (.invokevirtual 145, 3) := by decide +kernel
theorem dX11_readLine_4 : decode cX11_readLine 4 = .ok (.iload_n 1, 1) := by decide +kernel
theorem dX11_readLine_5 : decode cX11_readLine 5 = .ok (.bipush 12, 2) := by decide +kernel
theorem dX11_readLine_7 : decode cX11_readLine 7 = .ok (.if_icmp .ne 5, 3) := by decide +kernel
theorem dX11_readLine_10 : decode cX11_readLine 10 = .ok (.iconst 0, 1) := by decide +kernel
theorem dX11_readLine_11 : decode cX11_readLine 11 = .ok (.ireturn, 1) := by decide +kernel
theorem dX11_readLine_12 : decode cX11_readLine 12 = .ok (.aload_n 0, 1) := by decide +kernel
theorem dX11_readLine_13 : decode cX11_readLine 13 = .ok (.ldc 163, 2) := by decide +kernel
theorem dX11_readLine_15 : decode cX11_readLine 15 = .ok (.invokevirtual 150, 3) := by decide +kernel
theorem dX11_readLine_18 : decode cX11_readLine 18 = .ok (.ifCond .eq 8, 3) := by decide +kernel
theorem dX11_readLine_21 : decode cX11_readLine 21 = .ok (.aload_n 0, 1) := by decide +kernel
theorem dX11_readLine_22 : decode cX11_readLine 22 = .ok (.invokevirtual 164, 3) := by decide +kernel
theorem dX11_readLine_25 : decode cX11_readLine 25 = .ok (.ireturn, 1) := by decide +kernel
theorem dX11_readLine_26 : decode cX11_readLine 26 = .ok (.aload_n 0, 1) := by decide +kernel
theorem dX11_readLine_27 : decode cX11_readLine 27 = .ok (.ldc 168, 2) := by decide +kernel
theorem dX11_readLine_29 : decode cX11_readLine 29 = .ok (.invokevirtual 150, 3) := by decide +kernel
theorem dX11_readLine_32 : decode cX11_readLine 32 = .ok (.ifCond .eq 8, 3) := by decide +kernel
theorem dX11_readLine_35 : decode cX11_readLine 35 = .ok (.aload_n 0, 1) := by decide +kernel
theorem dX11_readLine_36 : decode cX11_readLine 36 = .ok (.invokevirtual 170, 3) := by decide +kernel
theorem dX11_readLine_39 : decode cX11_readLine 39 = .ok (.ireturn, 1) := by decide +kernel
theorem dX11_readLine_40 : decode cX11_readLine 40 = .ok (.aload_n 0, 1) := by decide +kernel
theorem dX11_readLine_41 : decode cX11_readLine 41 = .ok (.ldc 173, 2) := by decide +kernel
theorem dX11_readLine_43 : decode cX11_readLine 43 = .ok (.invokevirtual 150, 3) := by decide +kernel
theorem dX11_readLine_46 : decode cX11_readLine 46 = .ok (.ifCond .eq 8, 3) := by decide +kernel
theorem dX11_readLine_49 : decode cX11_readLine 49 = .ok (.aload_n 0, 1) := by decide +kernel
theorem dX11_readLine_50 : decode cX11_readLine 50 = .ok (.invokevirtual 175, 3) := by decide +kernel
theorem dX11_readLine_53 : decode cX11_readLine 53 = .ok (.ireturn, 1) := by decide +kernel
theorem dX11_readLine_54 : decode cX11_readLine 54 = .ok (.aload_n 0, 1) := by decide +kernel
theorem dX11_readLine_55 : decode cX11_readLine 55 = .ok (.ldc 178, 2) := by decide +kernel
theorem dX11_readLine_57 : decode cX11_readLine 57 = .ok (.invokevirtual 150, 3) := by decide +kernel
theorem dX11_readLine_60 : decode cX11_readLine 60 = .ok (.ifCond .ne 5, 3) := by decide +kernel
theorem dX11_readLine_63 : decode cX11_readLine 63 = .ok (.iconst 0, 1) := by decide +kernel
theorem dX11_readLine_64 : decode cX11_readLine 64 = .ok (.ireturn, 1) := by decide +kernel
theorem dX11_readLine_65 : decode cX11_readLine 65 = .ok (.aload_n 0, 1) := by decide +kernel
theorem dX11_readLine_66 : decode cX11_readLine 66 = .ok (.iconst 0, 1) := by decide +kernel
theorem dX11_readLine_67 : decode cX11_readLine 67 = .ok (.aload_n 0, 1) := by decide +kernel
theorem dX11_readLine_68 : decode cX11_readLine 68 = .ok (.invokevirtual 158, 3) := by decide +kernel
theorem dX11_readLine_71 : decode cX11_readLine 71 = .ok (.invokevirtual 138, 3) := by decide +kernel
theorem dX11_readLine_74 : decode cX11_readLine 74 = .ok (.istore_n 2, 1) := by decide +kernel
theorem dX11_readLine_75 : decode cX11_readLine 75 = .ok (.iload_n 2, 1) := by decide +kernel
theorem dX11_readLine_76 : decode cX11_readLine 76 = .ok (.ifCond .ge 7, 3) := by decide +kernel
theorem dX11_readLine_79 : decode cX11_readLine 79 = .ok (.iconst (-1), 1) := by decide +kernel
theorem dX11_readLine_80 : decode cX11_readLine 80 = .ok (.goto 11, 3) := by decide +kernel
theorem dX11_readLine_83 : decode cX11_readLine 83 = .ok (.aload_n 0, 1) := by decide +kernel
theorem dX11_readLine_84 : decode cX11_readLine 84 = .ok (.iconst 0, 1) := by decide +kernel
theorem dX11_readLine_85 : decode cX11_readLine 85 = .ok (.sipush 999, 3) := by decide +kernel
theorem dX11_readLine_88 : decode cX11_readLine 88 = .ok (.invokevirtual 138, 3) := by decide +kernel
theorem dX11_readLine_91 : decode cX11_readLine 91 = .ok (.istore_n 3, 1) := by decide +kernel
theorem dX11_readLine_92 : decode cX11_readLine 92 = .ok (.iload_n 3, 1) := by decide +kernel
theorem dX11_readLine_93 : decode cX11_readLine 93 = .ok (.ifCond .lt 12, 3) := by decide +kernel
theorem dX11_readLine_96 : decode cX11_readLine 96 = .ok (.aload_n 0, 1) := by decide +kernel
theorem dX11_readLine_97 : decode cX11_readLine 97 = .ok (.getfield 20, 3) := by decide +kernel
theorem dX11_readLine_100 : decode cX11_readLine 100 = .ok (.iconst 4, 1) := by decide +kernel
theorem dX11_readLine_101 : decode cX11_readLine 101 = .ok (.iload_n 2, 1) := by decide +kernel
theorem dX11_readLine_102 : decode cX11_readLine 102 = .ok (.iadd, 1) := by decide +kernel
theorem dX11_readLine_103 : decode cX11_readLine 103 = .ok (.iload_n 3, 1) := by decide +kernel
theorem dX11_readLine_104 : decode cX11_readLine 104 = .ok (.iastore, 1) := by decide +kernel
theorem dX11_readLine_105 : decode cX11_readLine 105 = .ok (.iload_n 3, 1) := by decide +kernel
theorem dX11_readLine_106 : decode cX11_readLine 106 = .ok (.ifCond .lt 7, 3) := by decide +kernel
theorem dX11_readLine_109 : decode cX11_readLine 109 = .ok (.iconst 1, 1) := by decide +kernel
theorem dX11_readLine_110 : decode cX11_readLine 110 = .ok (.goto 4, 3) := by decide +kernel
theorem dX11_readLine_113 : decode cX11_readLine 113 = .ok (.iconst 0, 1) := by decide +kernel
theorem dX11_readLine_114 : decode cX11_readLine 114 = .ok (.ireturn, 1) := by decide +kernel
def VX11_readLine_105 (d : Nat) (Q : Out → MS → Prop) (x3 : Int) (S : MS) : Prop :=
  R32 x3 ∧ ((x3 < 0) → B01 0 ∧ Q (.inl (some (vI 0))) S) ∧ (¬ (x3 < 0) → B01 1 ∧ Q (.inl (some (vI 1))) S)
theorem JX11_readLine_105 {d : Nat} {S0 : MS} {Q : Out → MS → Prop} (x3 : Int) (S : MS) (h : VX11_readLine_105 d Q x3 S) : Jw FinM RX11 cX11_readLine 4 (some .boolean) [] yX11_readLine (d + 1) S0 S 105 [(3, vI x3)] [] Q :=
  j_iload_n 0 dX11_readLine_105 rfl (j_if_lt (tgt := 113) dX11_readLine_106 (by decide) h (fun h => j_iconst dX11_readLine_113 (j_zret rfl dX11_readLine_114 h)) (fun h => j_iconst dX11_readLine_109 (j_goto (tgt := 114) dX11_readLine_110 (by decide) (j_zret rfl dX11_readLine_114 h))))
def VX11_readLine_91 (d : Nat) (Q : Out → MS → Prop) (x0 : Nat) (x2 : Int) (t0 : Int) (S : MS) : Prop :=
  R32 t0 ∧ ((t0 < 0) → VX11_readLine_105 d Q t0 S) ∧ (¬ (t0 < 0) → S.K x0 = 11 ∧ ∃ b1, S.R x0 3 = some b1 ∧ ((S.K b1 = 13 ∧ 0 ≤ (4 + x2) ∧ (4 + x2) < S.N b1) ∧ (VX11_readLine_105 d Q t0 (S.setI b1 ((4 + x2)).toNat t0))))
theorem JX11_readLine_91 {d : Nat} {S0 : MS} {Q : Out → MS → Prop} (x0 : Nat) (x2 : Int) (t0 : Int) (S : MS) (h : VX11_readLine_91 d Q x0 x2 t0 S) : Jw FinM RX11 cX11_readLine 4 (some .boolean) [] yX11_readLine (d + 1) S0 S 91 [(0, vA x0), (2, vI x2)] [vI t0] Q :=
  j_istore_n (lv2 := [(3, vI t0), (0, vA x0), (2, vI x2)]) dX11_readLine_91 (by decide) rfl (j_iload_n 0 dX11_readLine_92 rfl (j_if_lt (tgt := 105) dX11_readLine_93 (by decide) h (fun h => j_sub [0] rfl (JX11_readLine_105 _ _ h)) (fun h => j_aload_n 1 dX11_readLine_96 rfl (j_getR 11 3 f_RX11_20 dX11_readLine_97 h (fun b1 h => j_iconst dX11_readLine_100 (j_iload_n 2 dX11_readLine_101 rfl (j_iadd dX11_readLine_102 (j_iload_n 0 dX11_readLine_103 rfl (j_iast dX11_readLine_104 h (fun h => j_sub [0] rfl (JX11_readLine_105 _ _ h)))))))))))
def VX11_readLine_0 (d : Nat) (Q : Out → MS → Prop) (x0 : Nat) (x1 : Int) (S : MS) : Prop :=
  S.K x0 = 11 ∧ Mw hX11_letters yX11_letters d [vA x0] S (oV (fun S1 => (R32 x1 ∧ R32 (12 : Int)) ∧ (¬ (x1 = (12 : Int)) → S1.K x0 = 11 ∧ Mw hX11_isWord yX11_isWord d [vA x0, vA (S1.T 0)] S1 (oI (fun r2 S2 => R32 r2 ∧ ((r2 = 0) → S2.K x0 = 11 ∧ Mw hX11_isWord yX11_isWord d [vA x0, vA (S2.T 1)] S2 (oI (fun r3 S3 => R32 r3 ∧ ((r3 = 0) → S3.K x0 = 11 ∧ Mw hX11_isWord yX11_isWord d [vA x0, vA (S3.T 3)] S3 (oI (fun r4 S4 => R32 r4 ∧ ((r4 = 0) → S4.K x0 = 11 ∧ Mw hX11_isWord yX11_isWord d [vA x0, vA (S4.T 2)] S4 (oI (fun r5 S5 => R32 r5 ∧ (¬ (r5 = 0) → S5.K x0 = 11 ∧ Mw hX11_drafted yX11_drafted d [vA x0] S5 (oI (fun r6 S6 => S6.K x0 = 11 ∧ Mw hX11_number yX11_number d [vA x0, vI 0, vI r6] S6 (oI (fun r7 S7 => R32 r7 ∧ ((0 ≤ r7) → S7.K x0 = 11 ∧ Mw hX11_number yX11_number d [vA x0, vI 0, vI 999] S7 (oI (fun r8 S8 => VX11_readLine_91 d Q x0 r7 r8 S8))) ∧ (¬ (0 ≤ r7) → VX11_readLine_91 d Q x0 r7 ((-1)) S7)))))) ∧ ((r5 = 0) → B01 0 ∧ Q (.inl (some (vI 0))) S5)))) ∧ (¬ (r4 = 0) → S4.K x0 = 11 ∧ Mw hX11_readNote yX11_readNote d [vA x0] S4 (oI (fun r9 S9 => B01 r9 ∧ Q (.inl (some (vI r9))) S9)))))) ∧ (¬ (r3 = 0) → S3.K x0 = 11 ∧ Mw hX11_readScale yX11_readScale d [vA x0] S3 (oI (fun r10 S10 => B01 r10 ∧ Q (.inl (some (vI r10))) S10)))))) ∧ (¬ (r2 = 0) → S2.K x0 = 11 ∧ Mw hX11_readThings yX11_readThings d [vA x0] S2 (oI (fun r11 S11 => B01 r11 ∧ Q (.inl (some (vI r11))) S11)))))) ∧ ((x1 = (12 : Int)) → B01 0 ∧ Q (.inl (some (vI 0))) S1)))
theorem JX11_readLine_0 {d : Nat} {S0 : MS} {Q : Out → MS → Prop} (x0 : Nat) (x1 : Int) (S : MS) (h : VX11_readLine_0 d Q x0 x1 S) : Jw FinM RX11 cX11_readLine 4 (some .boolean) [] yX11_readLine (d + 1) S0 S 0 [(0, vA x0), (1, vI x1)] [] Q :=
  j_aload_n 0 dX11_readLine_0 rfl (j_callV (rest := []) 11 [] k_RX11_145 ⟨w_7_147, p_4_0⟩ ⟨_, _, rfl⟩ (by decide) rfl rfl (Nat.le_of_ble_eq_true rfl) dX11_readLine_1 h (kV (fun S1 h => j_iload_n 1 dX11_readLine_4 rfl (j_bipush dX11_readLine_5 rfl (j_icmp_ne (tgt := 12) dX11_readLine_7 (by decide) h (fun h => j_aload_n 0 dX11_readLine_12 rfl (j_ldcS (List.mem_of_getElem? (i := 12) rfl) dX11_readLine_13 (j_callV (rest := []) 11 [vA (S1.T 0)] k_RX11_150 ⟨w_7_152, p_4_1⟩ ⟨_, _, rfl⟩ (by decide) rfl rfl (Nat.le_of_ble_eq_true rfl) dX11_readLine_15 h (kI (fun r2 S2 h => j_if_eq (tgt := 26) dX11_readLine_18 (by decide) h (fun h => j_aload_n 0 dX11_readLine_26 rfl (j_ldcS (List.mem_of_getElem? (i := 13) rfl) dX11_readLine_27 (j_callV (rest := []) 11 [vA (S2.T 1)] k_RX11_150 ⟨w_7_152, p_4_1⟩ ⟨_, _, rfl⟩ (by decide) rfl rfl (Nat.le_of_ble_eq_true rfl) dX11_readLine_29 h (kI (fun r3 S3 h => j_if_eq (tgt := 40) dX11_readLine_32 (by decide) h (fun h => j_aload_n 0 dX11_readLine_40 rfl (j_ldcS (List.mem_of_getElem? (i := 14) rfl) dX11_readLine_41 (j_callV (rest := []) 11 [vA (S3.T 3)] k_RX11_150 ⟨w_7_152, p_4_1⟩ ⟨_, _, rfl⟩ (by decide) rfl rfl (Nat.le_of_ble_eq_true rfl) dX11_readLine_43 h (kI (fun r4 S4 h => j_if_eq (tgt := 54) dX11_readLine_46 (by decide) h (fun h => j_aload_n 0 dX11_readLine_54 rfl (j_ldcS (List.mem_of_getElem? (i := 15) rfl) dX11_readLine_55 (j_callV (rest := []) 11 [vA (S4.T 2)] k_RX11_150 ⟨w_7_152, p_4_1⟩ ⟨_, _, rfl⟩ (by decide) rfl rfl (Nat.le_of_ble_eq_true rfl) dX11_readLine_57 h (kI (fun r5 S5 h => j_if_ne (tgt := 65) dX11_readLine_60 (by decide) h (fun h => j_aload_n 0 dX11_readLine_65 rfl (j_iconst dX11_readLine_66 (j_aload_n 0 dX11_readLine_67 rfl (j_callV (rest := [vI 0, vA x0]) 11 [] k_RX11_158 ⟨w_7_185, p_4_6⟩ ⟨_, _, rfl⟩ (by decide) rfl rfl (Nat.le_of_ble_eq_true rfl) dX11_readLine_68 h (kI (fun r6 S6 h => j_callV (rest := []) 11 [vI 0, vI r6] k_RX11_138 ⟨w_7_162, p_4_3⟩ ⟨_, _, rfl⟩ (by decide) rfl rfl (Nat.le_of_ble_eq_true rfl) dX11_readLine_71 h (kI (fun r7 S7 h => j_istore_n (lv2 := [(2, vI r7), (0, vA x0), (1, vI x1)]) dX11_readLine_74 (by decide) rfl (j_iload_n 0 dX11_readLine_75 rfl (j_if_ge (tgt := 83) dX11_readLine_76 (by decide) h (fun h => j_aload_n 1 dX11_readLine_83 rfl (j_iconst dX11_readLine_84 (j_sipush dX11_readLine_85 rfl (j_callV (rest := []) 11 [vI 0, vI 999] k_RX11_138 ⟨w_7_162, p_4_3⟩ ⟨_, _, rfl⟩ (by decide) rfl rfl (Nat.le_of_ble_eq_true rfl) dX11_readLine_88 h (kI (fun r8 S8 h => j_sub [1, 0] rfl (JX11_readLine_91 _ _ _ _ h))) (fun _ _ h => h.elim))))) (fun h => j_iconst dX11_readLine_79 (j_goto (tgt := 91) dX11_readLine_80 (by decide) (j_sub [1, 0] rfl (JX11_readLine_91 _ _ _ _ h)))))))) (fun _ _ h => h.elim))) (fun _ _ h => h.elim))))) (fun h => j_iconst dX11_readLine_63 (j_zret rfl dX11_readLine_64 h)))) (fun _ _ h => h.elim)))) (fun h => j_aload_n 0 dX11_readLine_49 rfl (j_callV (rest := []) 11 [] k_RX11_175 ⟨w_7_178, p_4_5⟩ ⟨_, _, rfl⟩ (by decide) rfl rfl (Nat.le_of_ble_eq_true rfl) dX11_readLine_50 h (kI (fun r9 S9 h => j_zret rfl dX11_readLine_53 h)) (fun _ _ h => h.elim))))) (fun _ _ h => h.elim)))) (fun h => j_aload_n 0 dX11_readLine_35 rfl (j_callV (rest := []) 11 [] k_RX11_170 ⟨w_7_170, p_4_4⟩ ⟨_, _, rfl⟩ (by decide) rfl rfl (Nat.le_of_ble_eq_true rfl) dX11_readLine_36 h (kI (fun r10 S10 h => j_zret rfl dX11_readLine_39 h)) (fun _ _ h => h.elim))))) (fun _ _ h => h.elim)))) (fun h => j_aload_n 0 dX11_readLine_21 rfl (j_callV (rest := []) 11 [] k_RX11_164 ⟨w_7_158, p_4_2⟩ ⟨_, _, rfl⟩ (by decide) rfl rfl (Nat.le_of_ble_eq_true rfl) dX11_readLine_22 h (kI (fun r11 S11 h => j_zret rfl dX11_readLine_25 h)) (fun _ _ h => h.elim))))) (fun _ _ h => h.elim)))) (fun h => j_iconst dX11_readLine_10 (j_zret rfl dX11_readLine_11 h)))))) (fun _ _ h => h.elim))
theorem MX11_readLine {d : Nat} {x0 : Nat} {x1 : Int} {S : MS} {Q : Out → MS → Prop} (h : VX11_readLine_0 d Q x0 x1 S) : Mw hX11_readLine yX11_readLine (d + 1) [vA x0, vI x1] S Q := Mw.ofJ (by decide) (Nat.le_of_ble_eq_true rfl) (JX11_readLine_0 _ _ S h)
theorem dX11_readAll_0 : decode cX11_readAll 0 = .ok (.aload_n 0, 1) := by decide +kernel
theorem dX11_readAll_1 : decode cX11_readAll 1 = .ok (.invokevirtual 126, 3) := by decide +kernel
theorem dX11_readAll_4 : decode cX11_readAll 4 = .ok (.aload_n 0, 1) := by decide +kernel
theorem dX11_readAll_5 : decode cX11_readAll 5 = .ok (.getfield 113, 3) := by decide +kernel
theorem dX11_readAll_8 : decode cX11_readAll 8 = .ok (.aload_n 0, 1) := by decide +kernel
theorem dX11_readAll_9 : decode cX11_readAll 9 = .ok (.getfield 116, 3) := by decide +kernel
theorem dX11_readAll_12 : decode cX11_readAll 12 = .ok (.if_icmp .ne 5, 3) := by decide +kernel
theorem dX11_readAll_15 : decode cX11_readAll 15 = .ok (.iconst 1, 1) := by decide +kernel
theorem dX11_readAll_16 : decode cX11_readAll 16 = .ok (.ireturn, 1) := by decide +kernel
theorem dX11_readAll_17 : decode cX11_readAll 17 = .ok (.iconst 0, 1) := by decide +kernel
theorem dX11_readAll_18 : decode cX11_readAll 18 = .ok (.istore_n 1, 1) := by decide +kernel
theorem dX11_readAll_19 : decode cX11_readAll 19 = .ok (.aload_n 0, 1) := by decide +kernel
theorem dX11_readAll_20 : decode cX11_readAll 20 = .ok (.iload_n 1, 1) := by decide +kernel
theorem dX11_readAll_21 : decode cX11_readAll 21 = .ok (.invokevirtual 180, 3) := by decide +kernel
theorem dX11_readAll_24 : decode cX11_readAll 24 = .ok (.ifCond .ne 5, 3) := by decide +kernel
theorem dX11_readAll_27 : decode cX11_readAll 27 = .ok (.iconst 0, 1) := by decide +kernel
theorem dX11_readAll_28 : decode cX11_readAll 28 = .ok (.ireturn, 1) := by decide +kernel
theorem dX11_readAll_29 : decode cX11_readAll 29 = .ok (.aload_n 0, 1) := by decide +kernel
theorem dX11_readAll_30 : decode cX11_readAll 30 = .ok (.invokevirtual 126, 3) := by decide +kernel
theorem dX11_readAll_33 : decode cX11_readAll 33 = .ok (.aload_n 0, 1) := by decide +kernel
theorem dX11_readAll_34 : decode cX11_readAll 34 = .ok (.getfield 113, 3) := by decide +kernel
theorem dX11_readAll_37 : decode cX11_readAll 37 = .ok (.aload_n 0, 1) := by decide +kernel
theorem dX11_readAll_38 : decode cX11_readAll 38 = .ok (.getfield 116, 3) := by decide +kernel
theorem dX11_readAll_41 : decode cX11_readAll 41 = .ok (.if_icmp .ne 5, 3) := by decide +kernel
theorem dX11_readAll_44 : decode cX11_readAll 44 = .ok (.iconst 1, 1) := by decide +kernel
theorem dX11_readAll_45 : decode cX11_readAll 45 = .ok (.ireturn, 1) := by decide +kernel
theorem dX11_readAll_46 : decode cX11_readAll 46 = .ok (.aload_n 0, 1) := by decide +kernel
theorem dX11_readAll_47 : decode cX11_readAll 47 = .ok (.bipush 59, 2) := by decide +kernel
theorem dX11_readAll_49 : decode cX11_readAll 49 = .ok (.bipush 59, 2) := by decide +kernel
theorem dX11_readAll_51 : decode cX11_readAll 51 = .ok (.invokevirtual 119, 3) := by decide +kernel
theorem dX11_readAll_54 : decode cX11_readAll 54 = .ok (.ifCond .ne 5, 3) := by decide +kernel
theorem dX11_readAll_57 : decode cX11_readAll 57 = .ok (.iconst 0, 1) := by decide +kernel
theorem dX11_readAll_58 : decode cX11_readAll 58 = .ok (.ireturn, 1) := by decide +kernel
theorem dX11_readAll_59 : decode cX11_readAll 59 = .ok (.aload_n 0, 1) := by decide +kernel
theorem dX11_readAll_60 : decode cX11_readAll 60 = .ok (.dup, 1) := by decide +kernel
theorem dX11_readAll_61 : decode cX11_readAll 61 = .ok (.getfield 113, 3) := by decide +kernel
theorem dX11_readAll_64 : decode cX11_readAll 64 = .ok (.iconst 1, 1) := by decide +kernel
theorem dX11_readAll_65 : decode cX11_readAll 65 = .ok (.iadd, 1) := by decide +kernel
theorem dX11_readAll_66 : decode cX11_readAll 66 = .ok (.putfield 113, 3) := by decide +kernel
theorem dX11_readAll_69 : decode cX11_readAll 69 = .ok (.iinc 1 1, 3) := by decide +kernel
theorem dX11_readAll_72 : decode cX11_readAll 72 = .ok (.goto (-53), 3) := by decide +kernel
def VX11_readAll_19 (d : Nat) (Q : Out → MS → Prop) : Nat → Nat → Int → MS → Prop
  | 0, _, _, _ => False
  | n + 1, x0, x1, S => S.K x0 = 11 ∧ Mw hX11_readLine yX11_readLine d [vA x0, vI x1] S (oI (fun r1 S1 => R32 r1 ∧ (¬ (r1 = 0) → S1.K x0 = 11 ∧ Mw hX11_blanks yX11_blanks d [vA x0] S1 (oV (fun S2 => S2.K x0 = 11 ∧ (S2.K x0 = 11 ∧ ((R32 (S2.I x0 7) ∧ R32 (S2.I x0 8)) ∧ (¬ ((S2.I x0 7) = (S2.I x0 8)) → S2.K x0 = 11 ∧ Mw hX11_isAt yX11_isAt d [vA x0, vI 59, vI 59] S2 (oI (fun r3 S3 => R32 r3 ∧ (¬ (r3 = 0) → S3.K x0 = 11 ∧ (S3.K x0 = 11 ∧ ((VX11_readAll_19 d Q n) x0 (x1 + 1) (S3.setI x0 7 ((S3.I x0 7) + 1))))) ∧ ((r3 = 0) → B01 0 ∧ Q (.inl (some (vI 0))) S3)))) ∧ (((S2.I x0 7) = (S2.I x0 8)) → B01 1 ∧ Q (.inl (some (vI 1))) S2)))))) ∧ ((r1 = 0) → B01 0 ∧ Q (.inl (some (vI 0))) S1)))
theorem JX11_readAll_19 {d : Nat} {S0 : MS} {Q : Out → MS → Prop} : ∀ (n : Nat) (x0 : Nat) (x1 : Int) (S : MS), VX11_readAll_19 d Q n x0 x1 S → Jw FinM RX11 cX11_readAll 2 (some .boolean) [] yX11_readAll (d + 1) S0 S 19 [(0, vA x0), (1, vI x1)] [] Q := by
  intro n
  induction n with
  | zero => intro x0 x1 S h; exact h.elim
  | succ n ih =>
    intro x0 x1 S h
    exact j_aload_n 0 dX11_readAll_19 rfl (j_iload_n 1 dX11_readAll_20 rfl (j_callV (rest := []) 11 [vI x1] k_RX11_180 ⟨w_7_143, p_3_15⟩ ⟨_, _, rfl⟩ (by decide) rfl rfl (Nat.le_of_ble_eq_true rfl) dX11_readAll_21 h (kI (fun r1 S1 h => j_if_ne (tgt := 29) dX11_readAll_24 (by decide) h (fun h => j_aload_n 0 dX11_readAll_29 rfl (j_callV (rest := []) 11 [] k_RX11_126 ⟨w_7_135, p_3_13⟩ ⟨_, _, rfl⟩ (by decide) rfl rfl (Nat.le_of_ble_eq_true rfl) dX11_readAll_30 h (kV (fun S2 h => j_aload_n 0 dX11_readAll_33 rfl (j_getI 11 7 f_RX11_113 dX11_readAll_34 h (fun h => j_aload_n 0 dX11_readAll_37 rfl (j_getI 11 8 f_RX11_116 dX11_readAll_38 h (fun h => j_icmp_ne (tgt := 46) dX11_readAll_41 (by decide) h (fun h => j_aload_n 0 dX11_readAll_46 rfl (j_bipush dX11_readAll_47 rfl (j_bipush dX11_readAll_49 rfl (j_callV (rest := []) 11 [vI 59, vI 59] k_RX11_119 ⟨w_7_139, p_3_14⟩ ⟨_, _, rfl⟩ (by decide) rfl rfl (Nat.le_of_ble_eq_true rfl) dX11_readAll_51 h (kI (fun r3 S3 h => j_if_ne (tgt := 59) dX11_readAll_54 (by decide) h (fun h => j_aload_n 0 dX11_readAll_59 rfl (j_dup rfl dX11_readAll_60 (j_getI 11 7 f_RX11_113 dX11_readAll_61 h (fun h => j_iconst dX11_readAll_64 (j_iadd dX11_readAll_65 (j_putI 11 7 f_RX11_113 dX11_readAll_66 h (fun h => j_iinc 1 (lv2 := [(1, vI (x1 + 1)), (0, vA x0)]) dX11_readAll_69 rfl (by decide) rfl (j_goto (tgt := 19) dX11_readAll_72 (by decide) (j_sub [1, 0] rfl (ih _ _ _ h)))))))))) (fun h => j_iconst dX11_readAll_57 (j_zret rfl dX11_readAll_58 h)))) (fun _ _ h => h.elim))))) (fun h => j_iconst dX11_readAll_44 (j_zret rfl dX11_readAll_45 h)))))))) (fun _ _ h => h.elim))) (fun h => j_iconst dX11_readAll_27 (j_zret rfl dX11_readAll_28 h)))) (fun _ _ h => h.elim)))
def VX11_readAll_0 (d : Nat) (Q : Out → MS → Prop) (x0 : Nat) (S : MS) : Prop :=
  S.K x0 = 11 ∧ Mw hX11_blanks yX11_blanks d [vA x0] S (oV (fun S1 => S1.K x0 = 11 ∧ (S1.K x0 = 11 ∧ ((R32 (S1.I x0 7) ∧ R32 (S1.I x0 8)) ∧ (¬ ((S1.I x0 7) = (S1.I x0 8)) → ∃ m, VX11_readAll_19 d Q m x0 0 S1) ∧ (((S1.I x0 7) = (S1.I x0 8)) → B01 1 ∧ Q (.inl (some (vI 1))) S1)))))
theorem JX11_readAll_0 {d : Nat} {S0 : MS} {Q : Out → MS → Prop} (x0 : Nat) (S : MS) (h : VX11_readAll_0 d Q x0 S) : Jw FinM RX11 cX11_readAll 2 (some .boolean) [] yX11_readAll (d + 1) S0 S 0 [(0, vA x0)] [] Q :=
  j_aload_n 0 dX11_readAll_0 rfl (j_callV (rest := []) 11 [] k_RX11_126 ⟨w_7_135, p_3_13⟩ ⟨_, _, rfl⟩ (by decide) rfl rfl (Nat.le_of_ble_eq_true rfl) dX11_readAll_1 h (kV (fun S1 h => j_aload_n 0 dX11_readAll_4 rfl (j_getI 11 7 f_RX11_113 dX11_readAll_5 h (fun h => j_aload_n 0 dX11_readAll_8 rfl (j_getI 11 8 f_RX11_116 dX11_readAll_9 h (fun h => j_icmp_ne (tgt := 17) dX11_readAll_12 (by decide) h (fun h => j_iconst dX11_readAll_17 (j_istore_n (lv2 := [(1, vI 0), (0, vA x0)]) dX11_readAll_18 (by decide) rfl (Exists.elim h (fun m h => j_sub [1, 0] rfl (JX11_readAll_19 m _ _ _ h))))) (fun h => j_iconst dX11_readAll_15 (j_zret rfl dX11_readAll_16 h)))))))) (fun _ _ h => h.elim))
theorem MX11_readAll {d : Nat} {x0 : Nat} {S : MS} {Q : Out → MS → Prop} (h : VX11_readAll_0 d Q x0 S) : Mw hX11_readAll yX11_readAll (d + 1) [vA x0] S Q := Mw.ofJ (by decide) (Nat.le_of_ble_eq_true rfl) (JX11_readAll_0 _ S h)
theorem dX11_uses_0 : decode cX11_uses 0 = .ok (.aload_n 0, 1) := by decide +kernel
theorem dX11_uses_1 : decode cX11_uses 1 = .ok (.iconst 0, 1) := by decide +kernel
theorem dX11_uses_2 : decode cX11_uses 2 = .ok (.putfield 3, 3) := by decide +kernel
theorem dX11_uses_5 : decode cX11_uses 5 = .ok (.aload_n 0, 1) := by decide +kernel
theorem dX11_uses_6 : decode cX11_uses 6 = .ok (.aload_n 0, 1) := by decide +kernel
theorem dX11_uses_7 : decode cX11_uses 7 = .ok (.getfield 110, 3) := by decide +kernel
theorem dX11_uses_10 : decode cX11_uses 10 = .ok (.putfield 116, 3) := by decide +kernel
theorem dX11_uses_13 : decode cX11_uses 13 = .ok (.aload_n 0, 1) := by decide +kernel
theorem dX11_uses_14 : decode cX11_uses 14 = .ok (.iconst 0, 1) := by decide +kernel
theorem dX11_uses_15 : decode cX11_uses 15 = .ok (.putfield 110, 3) := by decide +kernel
theorem dX11_uses_18 : decode cX11_uses 18 = .ok (.aload_n 0, 1) := by decide +kernel
theorem dX11_uses_19 : decode cX11_uses 19 = .ok (.iconst 0, 1) := by decide +kernel
theorem dX11_uses_20 : decode cX11_uses 20 = .ok (.putfield 113, 3) := by decide +kernel
theorem dX11_uses_23 : decode cX11_uses 23 = .ok (.return_, 1) := by decide +kernel
def VX11_uses_0 (d : Nat) (Q : Out → MS → Prop) (x0 : Nat) (S : MS) : Prop :=
  S.K x0 = 11 ∧ ((S.setI x0 0 0).K x0 = 11 ∧ ((S.setI x0 0 0).K x0 = 11 ∧ (((S.setI x0 0 0).setI x0 8 ((S.setI x0 0 0).I x0 6)).K x0 = 11 ∧ ((((S.setI x0 0 0).setI x0 8 ((S.setI x0 0 0).I x0 6)).setI x0 6 0).K x0 = 11 ∧ (Q (.inl none) ((((S.setI x0 0 0).setI x0 8 ((S.setI x0 0 0).I x0 6)).setI x0 6 0).setI x0 7 0))))))
theorem JX11_uses_0 {d : Nat} {S0 : MS} {Q : Out → MS → Prop} (x0 : Nat) (S : MS) (h : VX11_uses_0 d Q x0 S) : Jw FinM RX11 cX11_uses 1 none [] yX11_uses (d + 1) S0 S 0 [(0, vA x0)] [] Q :=
  j_aload_n 0 dX11_uses_0 rfl (j_iconst dX11_uses_1 (j_putI 11 0 f_RX11_3 dX11_uses_2 h (fun h => j_aload_n 0 dX11_uses_5 rfl (j_aload_n 0 dX11_uses_6 rfl (j_getI 11 6 f_RX11_110 dX11_uses_7 h (fun h => j_putI 11 8 f_RX11_116 dX11_uses_10 h (fun h => j_aload_n 0 dX11_uses_13 rfl (j_iconst dX11_uses_14 (j_putI 11 6 f_RX11_110 dX11_uses_15 h (fun h => j_aload_n 0 dX11_uses_18 rfl (j_iconst dX11_uses_19 (j_putI 11 7 f_RX11_113 dX11_uses_20 h (fun h => j_vret rfl dX11_uses_23 h)))))))))))))
theorem MX11_uses {d : Nat} {x0 : Nat} {S : MS} {Q : Out → MS → Prop} (h : VX11_uses_0 d Q x0 S) : Mw hX11_uses yX11_uses (d + 1) [vA x0] S Q := Mw.ofJ (by decide) (Nat.le_of_ble_eq_true rfl) (JX11_uses_0 _ S h)
