theorem dX7_init_0 : decode cX7_init 0 = .ok (.aload_n 0, 1) := by decide +kernel
theorem dX7_init_1 : decode cX7_init 1 = .ok (.invokespecial 3, 3) := by decide +kernel
theorem dX7_init_4 : decode cX7_init 4 = .ok (.aload_n 0, 1) := by decide +kernel
theorem dX7_init_5 : decode cX7_init 5 = .ok (.bipush 7, 2) := by decide +kernel
theorem dX7_init_7 : decode cX7_init 7 = .ok (.newarray .int, 2) := by decide +kernel
theorem dX7_init_9 : decode cX7_init 9 = .ok (.putfield 9, 3) := by decide +kernel
theorem dX7_init_12 : decode cX7_init 12 = .ok (.aload_n 0, 1) := by decide +kernel
theorem dX7_init_13 : decode cX7_init 13 = .ok (.iconst 4, 1) := by decide +kernel
theorem dX7_init_14 : decode cX7_init 14 = .ok (.newarray .int, 2) := by decide +kernel
theorem dX7_init_16 : decode cX7_init 16 = .ok (.putfield 15, 3) := by decide +kernel
theorem dX7_init_19 : decode cX7_init 19 = .ok (.aload_n 0, 1) := by decide +kernel
theorem dX7_init_20 : decode cX7_init 20 = .ok (.iconst 4, 1) := by decide +kernel
theorem dX7_init_21 : decode cX7_init 21 = .ok (.newarray .int, 2) := by decide +kernel
theorem dX7_init_23 : decode cX7_init 23 = .ok (.putfield 18, 3) := by decide +kernel
theorem dX7_init_26 : decode cX7_init 26 = .ok (.aload_n 0, 1) := by decide +kernel
theorem dX7_init_27 : decode cX7_init 27 = .ok (.iconst 4, 1) := by decide +kernel
theorem dX7_init_28 : decode cX7_init 28 = .ok (.newarray .int, 2) := by decide +kernel
theorem dX7_init_30 : decode cX7_init 30 = .ok (.putfield 21, 3) := by decide +kernel
theorem dX7_init_33 : decode cX7_init 33 = .ok (.aload_n 0, 1) := by decide +kernel
theorem dX7_init_34 : decode cX7_init 34 = .ok (.bipush 16, 2) := by decide +kernel
theorem dX7_init_36 : decode cX7_init 36 = .ok (.newarray .int, 2) := by decide +kernel
theorem dX7_init_38 : decode cX7_init 38 = .ok (.putfield 24, 3) := by decide +kernel
theorem dX7_init_41 : decode cX7_init 41 = .ok (.aload_n 0, 1) := by decide +kernel
theorem dX7_init_42 : decode cX7_init 42 = .ok (.bipush 16, 2) := by decide +kernel
theorem dX7_init_44 : decode cX7_init 44 = .ok (.newarray .int, 2) := by decide +kernel
theorem dX7_init_46 : decode cX7_init 46 = .ok (.putfield 27, 3) := by decide +kernel
theorem dX7_init_49 : decode cX7_init 49 = .ok (.aload_n 0, 1) := by decide +kernel
theorem dX7_init_50 : decode cX7_init 50 = .ok (.bipush 16, 2) := by decide +kernel
theorem dX7_init_52 : decode cX7_init 52 = .ok (.newarray .int, 2) := by decide +kernel
theorem dX7_init_54 : decode cX7_init 54 = .ok (.putfield 30, 3) := by decide +kernel
theorem dX7_init_57 : decode cX7_init 57 = .ok (.aload_n 0, 1) := by decide +kernel
theorem dX7_init_58 : decode cX7_init 58 = .ok (.iconst 3, 1) := by decide +kernel
theorem dX7_init_59 : decode cX7_init 59 = .ok (.putfield 33, 3) := by decide +kernel
theorem dX7_init_62 : decode cX7_init 62 = .ok (.aload_n 0, 1) := by decide +kernel
theorem dX7_init_63 : decode cX7_init 63 = .ok (.iconst 0, 1) := by decide +kernel
theorem dX7_init_64 : decode cX7_init 64 = .ok (.putfield 37, 3) := by decide +kernel
theorem dX7_init_67 : decode cX7_init 67 = .ok (.aload_n 0, 1) := by decide +kernel
theorem dX7_init_68 : decode cX7_init 68 = .ok (.iconst 0, 1) := by decide +kernel
theorem dX7_init_69 : decode cX7_init 69 = .ok (.putfield 40, 3) := by decide +kernel
theorem dX7_init_72 : decode cX7_init 72 = .ok (.aload_n 0, 1) := by decide +kernel
theorem dX7_init_73 : decode cX7_init 73 = .ok (.iconst 0, 1) := by decide +kernel
theorem dX7_init_74 : decode cX7_init 74 = .ok (.putfield 43, 3) := by decide +kernel
theorem dX7_init_77 : decode cX7_init 77 = .ok (.return_, 1) := by decide +kernel
def VX7_init_0 (d : Nat) (Q : Out → MS → Prop) (x0 : Nat) (S : MS) : Prop :=
  (0 ≤ (7 : Int) ∧ (7 : Int) < 1000000) ∧ ((S.mk 13 ((7 : Int)).toNat).K x0 = 7 ∧ ((0 ≤ (4 : Int) ∧ (4 : Int) < 1000000) ∧ ((((S.mk 13 ((7 : Int)).toNat).setR x0 0 (some S.nx)).mk 13 ((4 : Int)).toNat).K x0 = 7 ∧ (∀ S1 : MS, S1 = (((S.mk 13 ((7 : Int)).toNat).setR x0 0 (some S.nx)).mk 13 ((4 : Int)).toNat).setR x0 1 (some (((S.mk 13 ((7 : Int)).toNat).setR x0 0 (some S.nx)).nx)) → (0 ≤ (4 : Int) ∧ (4 : Int) < 1000000) ∧ ((S1.mk 13 ((4 : Int)).toNat).K x0 = 7 ∧ ((0 ≤ (4 : Int) ∧ (4 : Int) < 1000000) ∧ ((((S1.mk 13 ((4 : Int)).toNat).setR x0 2 (some S1.nx)).mk 13 ((4 : Int)).toNat).K x0 = 7 ∧ (∀ S2 : MS, S2 = (((S1.mk 13 ((4 : Int)).toNat).setR x0 2 (some S1.nx)).mk 13 ((4 : Int)).toNat).setR x0 3 (some (((S1.mk 13 ((4 : Int)).toNat).setR x0 2 (some S1.nx)).nx)) → (0 ≤ (16 : Int) ∧ (16 : Int) < 1000000) ∧ ((S2.mk 13 ((16 : Int)).toNat).K x0 = 7 ∧ ((0 ≤ (16 : Int) ∧ (16 : Int) < 1000000) ∧ ((((S2.mk 13 ((16 : Int)).toNat).setR x0 4 (some S2.nx)).mk 13 ((16 : Int)).toNat).K x0 = 7 ∧ (∀ S3 : MS, S3 = (((S2.mk 13 ((16 : Int)).toNat).setR x0 4 (some S2.nx)).mk 13 ((16 : Int)).toNat).setR x0 5 (some (((S2.mk 13 ((16 : Int)).toNat).setR x0 4 (some S2.nx)).nx)) → (0 ≤ (16 : Int) ∧ (16 : Int) < 1000000) ∧ ((S3.mk 13 ((16 : Int)).toNat).K x0 = 7 ∧ (((S3.mk 13 ((16 : Int)).toNat).setR x0 6 (some S3.nx)).K x0 = 7 ∧ ((((S3.mk 13 ((16 : Int)).toNat).setR x0 6 (some S3.nx)).setI x0 7 3).K x0 = 7 ∧ (((((S3.mk 13 ((16 : Int)).toNat).setR x0 6 (some S3.nx)).setI x0 7 3).setI x0 8 0).K x0 = 7 ∧ (∀ S4 : MS, S4 = ((((S3.mk 13 ((16 : Int)).toNat).setR x0 6 (some S3.nx)).setI x0 7 3).setI x0 8 0).setI x0 9 0 → S4.K x0 = 7 ∧ (Q (.inl none) (S4.setI x0 10 0)))))))))))))))))))
theorem JX7_init_0 {d : Nat} {S0 : MS} {Q : Out → MS → Prop} (x0 : Nat) (S : MS) (h : VX7_init_0 d Q x0 S) : Jw FinM RX7 cX7_init 1 none [] yX7_init (d + 1) S0 S 0 [(0, vA x0)] [] Q :=
  j_aload_n 0 dX7_init_0 rfl (j_objInit w_1_64 dX7_init_1 (Nat.le_of_ble_eq_true rfl) w_1_36 w_objInit (j_aload_n 0 dX7_init_4 rfl (j_bipush dX7_init_5 rfl (j_newb 13 dX7_init_7 rfl (by decide) w_1_58 h (fun h => j_putFR 7 0 f_RX7_9 (by intro q h; cases h; rfl) rfl (fun b => ⟨rfl, rfl⟩) dX7_init_9 h (fun h => j_aload_n 0 dX7_init_12 rfl (j_iconst dX7_init_13 (j_newb 13 dX7_init_14 rfl (by decide) w_1_58 h (fun h => j_putFR 7 1 f_RX7_15 (by intro q h; cases h; rfl) rfl (fun b => ⟨rfl, rfl⟩) dX7_init_16 h (fun h => j_bind h (fun S1 h => j_aload_n 0 dX7_init_19 rfl (j_iconst dX7_init_20 (j_newb 13 dX7_init_21 rfl (by decide) w_1_58 h (fun h => j_putFR 7 2 f_RX7_18 (by intro q h; cases h; rfl) rfl (fun b => ⟨rfl, rfl⟩) dX7_init_23 h (fun h => j_aload_n 0 dX7_init_26 rfl (j_iconst dX7_init_27 (j_newb 13 dX7_init_28 rfl (by decide) w_1_58 h (fun h => j_putFR 7 3 f_RX7_21 (by intro q h; cases h; rfl) rfl (fun b => ⟨rfl, rfl⟩) dX7_init_30 h (fun h => j_bind h (fun S2 h => j_aload_n 0 dX7_init_33 rfl (j_bipush dX7_init_34 rfl (j_newb 13 dX7_init_36 rfl (by decide) w_1_58 h (fun h => j_putFR 7 4 f_RX7_24 (by intro q h; cases h; rfl) rfl (fun b => ⟨rfl, rfl⟩) dX7_init_38 h (fun h => j_aload_n 0 dX7_init_41 rfl (j_bipush dX7_init_42 rfl (j_newb 13 dX7_init_44 rfl (by decide) w_1_58 h (fun h => j_putFR 7 5 f_RX7_27 (by intro q h; cases h; rfl) rfl (fun b => ⟨rfl, rfl⟩) dX7_init_46 h (fun h => j_bind h (fun S3 h => j_aload_n 0 dX7_init_49 rfl (j_bipush dX7_init_50 rfl (j_newb 13 dX7_init_52 rfl (by decide) w_1_58 h (fun h => j_putFR 7 6 f_RX7_30 (by intro q h; cases h; rfl) rfl (fun b => ⟨rfl, rfl⟩) dX7_init_54 h (fun h => j_aload_n 0 dX7_init_57 rfl (j_iconst dX7_init_58 (j_putI 7 7 f_RX7_33 dX7_init_59 h (fun h => j_aload_n 0 dX7_init_62 rfl (j_iconst dX7_init_63 (j_putI 7 8 f_RX7_37 dX7_init_64 h (fun h => j_aload_n 0 dX7_init_67 rfl (j_iconst dX7_init_68 (j_putI 7 9 f_RX7_40 dX7_init_69 h (fun h => j_bind h (fun S4 h => j_aload_n 0 dX7_init_72 rfl (j_iconst dX7_init_73 (j_putI 7 10 f_RX7_43 dX7_init_74 h (fun h => j_vret rfl dX7_init_77 h))))))))))))))))))))))))))))))))))))))))))))))
theorem MX7_init {d : Nat} {x0 : Nat} {S : MS} {Q : Out → MS → Prop} (h : VX7_init_0 d Q x0 S) : Mw hX7_init yX7_init (d + 1) [vA x0] S Q := Mw.ofJ (by decide) (Nat.le_of_ble_eq_true rfl) (JX7_init_0 _ S h)
theorem dX7_takeOver_0 : decode cX7_takeOver 0 = .ok (.aload_n 1, 1) := by decide +kernel
theorem dX7_takeOver_1 : decode cX7_takeOver 1 = .ok (.getfield 9, 3) := by decide +kernel
theorem dX7_takeOver_4 : decode cX7_takeOver 4 = .ok (.iconst 0, 1) := by decide +kernel
theorem dX7_takeOver_5 : decode cX7_takeOver 5 = .ok (.aload_n 0, 1) := by decide +kernel
theorem dX7_takeOver_6 : decode cX7_takeOver 6 = .ok (.getfield 9, 3) := by decide +kernel
theorem dX7_takeOver_9 : decode cX7_takeOver 9 = .ok (.iconst 0, 1) := by decide +kernel
theorem dX7_takeOver_10 : decode cX7_takeOver 10 = .ok (.bipush 7, 2) := by decide +kernel
theorem dX7_takeOver_12 : decode cX7_takeOver 12 = .ok (.invokestatic 46, 3) := by decide +kernel
theorem dX7_takeOver_15 : decode cX7_takeOver 15 = .ok (.aload_n 1, 1) := by decide +kernel
theorem dX7_takeOver_16 : decode cX7_takeOver 16 = .ok (.getfield 15, 3) := by decide +kernel
theorem dX7_takeOver_19 : decode cX7_takeOver 19 = .ok (.iconst 0, 1) := by decide +kernel
theorem dX7_takeOver_20 : decode cX7_takeOver 20 = .ok (.aload_n 0, 1) := by decide +kernel
theorem dX7_takeOver_21 : decode cX7_takeOver 21 = .ok (.getfield 15, 3) := by decide +kernel
theorem dX7_takeOver_24 : decode cX7_takeOver 24 = .ok (.iconst 0, 1) := by decide +kernel
theorem dX7_takeOver_25 : decode cX7_takeOver 25 = .ok (.iconst 4, 1) := by decide +kernel
theorem dX7_takeOver_26 : decode cX7_takeOver 26 = .ok (.invokestatic 46, 3) := by decide +kernel
theorem dX7_takeOver_29 : decode cX7_takeOver 29 = .ok (.aload_n 1, 1) := by decide +kernel
theorem dX7_takeOver_30 : decode cX7_takeOver 30 = .ok (.getfield 18, 3) := by decide +kernel
theorem dX7_takeOver_33 : decode cX7_takeOver 33 = .ok (.iconst 0, 1) := by decide +kernel
theorem dX7_takeOver_34 : decode cX7_takeOver 34 = .ok (.aload_n 0, 1) := by decide +kernel
theorem dX7_takeOver_35 : decode cX7_takeOver 35 = .ok (.getfield 18, 3) := by decide +kernel
theorem dX7_takeOver_38 : decode cX7_takeOver 38 = .ok (.iconst 0, 1) := by decide +kernel
theorem dX7_takeOver_39 : decode cX7_takeOver 39 = .ok (.iconst 4, 1) := by decide +kernel
theorem dX7_takeOver_40 : decode cX7_takeOver 40 = .ok (.invokestatic 46, 3) := by decide +kernel
theorem dX7_takeOver_43 : decode cX7_takeOver 43 = .ok (.aload_n 1, 1) := by decide +kernel
theorem dX7_takeOver_44 : decode cX7_takeOver 44 = .ok (.getfield 21, 3) := by decide +kernel
theorem dX7_takeOver_47 : decode cX7_takeOver 47 = .ok (.iconst 0, 1) := by decide +kernel
theorem dX7_takeOver_48 : decode cX7_takeOver 48 = .ok (.aload_n 0, 1) := by decide +kernel
theorem dX7_takeOver_49 : decode cX7_takeOver 49 = .ok (.getfield 21, 3) := by decide +kernel
theorem dX7_takeOver_52 : decode cX7_takeOver 52 = .ok (.iconst 0, 1) := by decide +kernel
theorem dX7_takeOver_53 : decode cX7_takeOver 53 = .ok (.iconst 4, 1) := by decide +kernel
theorem dX7_takeOver_54 : decode cX7_takeOver 54 = .ok (.invokestatic 46, 3) := by decide +kernel
theorem dX7_takeOver_57 : decode cX7_takeOver 57 = .ok (.aload_n 1, 1) := by decide +kernel
theorem dX7_takeOver_58 : decode cX7_takeOver 58 = .ok (.getfield 24, 3) := by decide +kernel
theorem dX7_takeOver_61 : decode cX7_takeOver 61 = .ok (.iconst 0, 1) := by decide +kernel
theorem dX7_takeOver_62 : decode cX7_takeOver 62 = .ok (.aload_n 0, 1) := by decide +kernel
theorem dX7_takeOver_63 : decode cX7_takeOver 63 = .ok (.getfield 24, 3) := by decide +kernel
theorem dX7_takeOver_66 : decode cX7_takeOver 66 = .ok (.iconst 0, 1) := by decide +kernel
theorem dX7_takeOver_67 : decode cX7_takeOver 67 = .ok (.bipush 16, 2) := by decide +kernel
theorem dX7_takeOver_69 : decode cX7_takeOver 69 = .ok (.invokestatic 46, 3) := by decide +kernel
theorem dX7_takeOver_72 : decode cX7_takeOver 72 = .ok (.aload_n 1, 1) := by decide +kernel
theorem dX7_takeOver_73 : decode cX7_takeOver 73 = .ok (.getfield 27, 3) := by decide +kernel
theorem dX7_takeOver_76 : decode cX7_takeOver 76 = .ok (.iconst 0, 1) := by decide +kernel
theorem dX7_takeOver_77 : decode cX7_takeOver 77 = .ok (.aload_n 0, 1) := by decide +kernel
theorem dX7_takeOver_78 : decode cX7_takeOver 78 = .ok (.getfield 27, 3) := by decide +kernel
theorem dX7_takeOver_81 : decode cX7_takeOver 81 = .ok (.iconst 0, 1) := by decide +kernel
theorem dX7_takeOver_82 : decode cX7_takeOver 82 = .ok (.bipush 16, 2) := by decide +kernel
theorem dX7_takeOver_84 : decode cX7_takeOver 84 = .ok (.invokestatic 46, 3) := by decide +kernel
theorem dX7_takeOver_87 : decode cX7_takeOver 87 = .ok (.aload_n 1, 1) := by decide +kernel
theorem dX7_takeOver_88 : decode cX7_takeOver 88 = .ok (.getfield 30, 3) := by decide +kernel
theorem dX7_takeOver_91 : decode cX7_takeOver 91 = .ok (.iconst 0, 1) := by decide +kernel
theorem dX7_takeOver_92 : decode cX7_takeOver 92 = .ok (.aload_n 0, 1) := by decide +kernel
theorem dX7_takeOver_93 : decode cX7_takeOver 93 = .ok (.getfield 30, 3) := by decide +kernel
theorem dX7_takeOver_96 : decode cX7_takeOver 96 = .ok (.iconst 0, 1) := by decide +kernel
theorem dX7_takeOver_97 : decode cX7_takeOver 97 = .ok (.bipush 16, 2) := by decide +kernel
theorem dX7_takeOver_99 : decode cX7_takeOver 99 = .ok (.invokestatic 46, 3) := by decide +kernel
theorem dX7_takeOver_102 : decode cX7_takeOver 102 = .ok (.aload_n 0, 1) := by decide +kernel
theorem dX7_takeOver_103 : decode cX7_takeOver 103 = .ok (.aload_n 1, 1) := by decide +kernel
theorem dX7_takeOver_104 : decode cX7_takeOver 104 = .ok (.getfield 33, 3) := by decide +kernel
theorem dX7_takeOver_107 : decode cX7_takeOver 107 = .ok (.putfield 33, 3) := by decide +kernel
theorem dX7_takeOver_110 : decode cX7_takeOver 110 = .ok (.aload_n 0, 1) := by decide +kernel
theorem dX7_takeOver_111 : decode cX7_takeOver 111 = .ok (.aload_n 1, 1) := by decide +kernel
theorem dX7_takeOver_112 : decode cX7_takeOver 112 = .ok (.getfield 37, 3) := by decide +kernel
theorem dX7_takeOver_115 : decode cX7_takeOver 115 = .ok (.putfield 37, 3) := by decide +kernel
theorem dX7_takeOver_118 : decode cX7_takeOver 118 = .ok (.aload_n 0, 1) := by decide +kernel
theorem dX7_takeOver_119 : decode cX7_takeOver 119 = .ok (.aload_n 1, 1) := by decide +kernel
theorem dX7_takeOver_120 : decode cX7_takeOver 120 = .ok (.getfield 40, 3) := by decide +kernel
theorem dX7_takeOver_123 : decode cX7_takeOver 123 = .ok (.putfield 40, 3) := by decide +kernel
theorem dX7_takeOver_126 : decode cX7_takeOver 126 = .ok (.aload_n 0, 1) := by decide +kernel
theorem dX7_takeOver_127 : decode cX7_takeOver 127 = .ok (.aload_n 1, 1) := by decide +kernel
theorem dX7_takeOver_128 : decode cX7_takeOver 128 = .ok (.getfield 43, 3) := by decide +kernel
theorem dX7_takeOver_131 : decode cX7_takeOver 131 = .ok (.putfield 43, 3) := by decide +kernel
theorem dX7_takeOver_134 : decode cX7_takeOver 134 = .ok (.return_, 1) := by decide +kernel
def VX7_takeOver_0 (d : Nat) (Q : Out → MS → Prop) (x0 : Nat) (x1 : Nat) (S : MS) : Prop :=
  S.K x1 = 7 ∧ ∃ b1, S.R x1 0 = some b1 ∧ (S.K x0 = 7 ∧ ∃ b2, S.R x0 0 = some b2 ∧ ((S.K b1 = 13 ∧ S.K b2 = 13 ∧ (0 ≤ (0 : Int) ∧ 0 ≤ (0 : Int) ∧ 0 ≤ (7 : Int)) ∧ (0 : Int) + (7 : Int) ≤ S.N b1 ∧ (0 : Int) + (7 : Int) ≤ S.N b2) ∧ (∀ S3 : MS, S3 = S.cpy b1 ((0 : Int)).toNat b2 ((0 : Int)).toNat ((7 : Int)).toNat → S3.K x1 = 7 ∧ ∃ b4, S3.R x1 1 = some b4 ∧ (S3.K x0 = 7 ∧ ∃ b5, S3.R x0 1 = some b5 ∧ ((S3.K b4 = 13 ∧ S3.K b5 = 13 ∧ (0 ≤ (0 : Int) ∧ 0 ≤ (0 : Int) ∧ 0 ≤ (4 : Int)) ∧ (0 : Int) + (4 : Int) ≤ S3.N b4 ∧ (0 : Int) + (4 : Int) ≤ S3.N b5) ∧ (∀ S6 : MS, S6 = S3.cpy b4 ((0 : Int)).toNat b5 ((0 : Int)).toNat ((4 : Int)).toNat → S6.K x1 = 7 ∧ ∃ b7, S6.R x1 2 = some b7 ∧ (S6.K x0 = 7 ∧ ∃ b8, S6.R x0 2 = some b8 ∧ ((S6.K b7 = 13 ∧ S6.K b8 = 13 ∧ (0 ≤ (0 : Int) ∧ 0 ≤ (0 : Int) ∧ 0 ≤ (4 : Int)) ∧ (0 : Int) + (4 : Int) ≤ S6.N b7 ∧ (0 : Int) + (4 : Int) ≤ S6.N b8) ∧ (∀ S9 : MS, S9 = S6.cpy b7 ((0 : Int)).toNat b8 ((0 : Int)).toNat ((4 : Int)).toNat → S9.K x1 = 7 ∧ ∃ b10, S9.R x1 3 = some b10 ∧ (S9.K x0 = 7 ∧ ∃ b11, S9.R x0 3 = some b11 ∧ ((S9.K b10 = 13 ∧ S9.K b11 = 13 ∧ (0 ≤ (0 : Int) ∧ 0 ≤ (0 : Int) ∧ 0 ≤ (4 : Int)) ∧ (0 : Int) + (4 : Int) ≤ S9.N b10 ∧ (0 : Int) + (4 : Int) ≤ S9.N b11) ∧ (∀ S12 : MS, S12 = S9.cpy b10 ((0 : Int)).toNat b11 ((0 : Int)).toNat ((4 : Int)).toNat → S12.K x1 = 7 ∧ ∃ b13, S12.R x1 4 = some b13 ∧ (S12.K x0 = 7 ∧ ∃ b14, S12.R x0 4 = some b14 ∧ ((S12.K b13 = 13 ∧ S12.K b14 = 13 ∧ (0 ≤ (0 : Int) ∧ 0 ≤ (0 : Int) ∧ 0 ≤ (16 : Int)) ∧ (0 : Int) + (16 : Int) ≤ S12.N b13 ∧ (0 : Int) + (16 : Int) ≤ S12.N b14) ∧ (∀ S15 : MS, S15 = S12.cpy b13 ((0 : Int)).toNat b14 ((0 : Int)).toNat ((16 : Int)).toNat → S15.K x1 = 7 ∧ ∃ b16, S15.R x1 5 = some b16 ∧ (S15.K x0 = 7 ∧ ∃ b17, S15.R x0 5 = some b17 ∧ ((S15.K b16 = 13 ∧ S15.K b17 = 13 ∧ (0 ≤ (0 : Int) ∧ 0 ≤ (0 : Int) ∧ 0 ≤ (16 : Int)) ∧ (0 : Int) + (16 : Int) ≤ S15.N b16 ∧ (0 : Int) + (16 : Int) ≤ S15.N b17) ∧ (∀ S18 : MS, S18 = S15.cpy b16 ((0 : Int)).toNat b17 ((0 : Int)).toNat ((16 : Int)).toNat → S18.K x1 = 7 ∧ ∃ b19, S18.R x1 6 = some b19 ∧ (S18.K x0 = 7 ∧ ∃ b20, S18.R x0 6 = some b20 ∧ ((S18.K b19 = 13 ∧ S18.K b20 = 13 ∧ (0 ≤ (0 : Int) ∧ 0 ≤ (0 : Int) ∧ 0 ≤ (16 : Int)) ∧ (0 : Int) + (16 : Int) ≤ S18.N b19 ∧ (0 : Int) + (16 : Int) ≤ S18.N b20) ∧ (∀ S21 : MS, S21 = S18.cpy b19 ((0 : Int)).toNat b20 ((0 : Int)).toNat ((16 : Int)).toNat → S21.K x1 = 7 ∧ (S21.K x0 = 7 ∧ ((S21.setI x0 7 (S21.I x1 7)).K x1 = 7 ∧ ((S21.setI x0 7 (S21.I x1 7)).K x0 = 7 ∧ (((S21.setI x0 7 (S21.I x1 7)).setI x0 8 ((S21.setI x0 7 (S21.I x1 7)).I x1 8)).K x1 = 7 ∧ (((S21.setI x0 7 (S21.I x1 7)).setI x0 8 ((S21.setI x0 7 (S21.I x1 7)).I x1 8)).K x0 = 7 ∧ (∀ S22 : MS, S22 = ((S21.setI x0 7 (S21.I x1 7)).setI x0 8 ((S21.setI x0 7 (S21.I x1 7)).I x1 8)).setI x0 9 (((S21.setI x0 7 (S21.I x1 7)).setI x0 8 ((S21.setI x0 7 (S21.I x1 7)).I x1 8)).I x1 9) → S22.K x1 = 7 ∧ (S22.K x0 = 7 ∧ (Q (.inl none) (S22.setI x0 10 (S22.I x1 10)))))))))))))))))))))))))))))))
theorem JX7_takeOver_0 {d : Nat} {S0 : MS} {Q : Out → MS → Prop} (x0 : Nat) (x1 : Nat) (S : MS) (h : VX7_takeOver_0 d Q x0 x1 S) : Jw FinM RX7 cX7_takeOver 2 none [] yX7_takeOver (d + 1) S0 S 0 [(0, vA x0), (1, vA x1)] [] Q :=
  j_aload_n 1 dX7_takeOver_0 rfl (j_getR 7 0 f_RX7_9 dX7_takeOver_1 h (fun b1 h => j_iconst dX7_takeOver_4 (j_aload_n 0 dX7_takeOver_5 rfl (j_getR 7 0 f_RX7_9 dX7_takeOver_6 h (fun b2 h => j_iconst dX7_takeOver_9 (j_bipush dX7_takeOver_10 rfl (j_copy w_3_217 w_native w_3_218 w_1_11 (Nat.le_of_ble_eq_true rfl) dX7_takeOver_12 h (fun h => j_bind h (fun S3 h => j_aload_n 1 dX7_takeOver_15 rfl (j_getR 7 1 f_RX7_15 dX7_takeOver_16 h (fun b4 h => j_iconst dX7_takeOver_19 (j_aload_n 0 dX7_takeOver_20 rfl (j_getR 7 1 f_RX7_15 dX7_takeOver_21 h (fun b5 h => j_iconst dX7_takeOver_24 (j_iconst dX7_takeOver_25 (j_copy w_3_217 w_native w_3_218 w_1_11 (Nat.le_of_ble_eq_true rfl) dX7_takeOver_26 h (fun h => j_bind h (fun S6 h => j_aload_n 1 dX7_takeOver_29 rfl (j_getR 7 2 f_RX7_18 dX7_takeOver_30 h (fun b7 h => j_iconst dX7_takeOver_33 (j_aload_n 0 dX7_takeOver_34 rfl (j_getR 7 2 f_RX7_18 dX7_takeOver_35 h (fun b8 h => j_iconst dX7_takeOver_38 (j_iconst dX7_takeOver_39 (j_copy w_3_217 w_native w_3_218 w_1_11 (Nat.le_of_ble_eq_true rfl) dX7_takeOver_40 h (fun h => j_bind h (fun S9 h => j_aload_n 1 dX7_takeOver_43 rfl (j_getR 7 3 f_RX7_21 dX7_takeOver_44 h (fun b10 h => j_iconst dX7_takeOver_47 (j_aload_n 0 dX7_takeOver_48 rfl (j_getR 7 3 f_RX7_21 dX7_takeOver_49 h (fun b11 h => j_iconst dX7_takeOver_52 (j_iconst dX7_takeOver_53 (j_copy w_3_217 w_native w_3_218 w_1_11 (Nat.le_of_ble_eq_true rfl) dX7_takeOver_54 h (fun h => j_bind h (fun S12 h => j_aload_n 1 dX7_takeOver_57 rfl (j_getR 7 4 f_RX7_24 dX7_takeOver_58 h (fun b13 h => j_iconst dX7_takeOver_61 (j_aload_n 0 dX7_takeOver_62 rfl (j_getR 7 4 f_RX7_24 dX7_takeOver_63 h (fun b14 h => j_iconst dX7_takeOver_66 (j_bipush dX7_takeOver_67 rfl (j_copy w_3_217 w_native w_3_218 w_1_11 (Nat.le_of_ble_eq_true rfl) dX7_takeOver_69 h (fun h => j_bind h (fun S15 h => j_aload_n 1 dX7_takeOver_72 rfl (j_getR 7 5 f_RX7_27 dX7_takeOver_73 h (fun b16 h => j_iconst dX7_takeOver_76 (j_aload_n 0 dX7_takeOver_77 rfl (j_getR 7 5 f_RX7_27 dX7_takeOver_78 h (fun b17 h => j_iconst dX7_takeOver_81 (j_bipush dX7_takeOver_82 rfl (j_copy w_3_217 w_native w_3_218 w_1_11 (Nat.le_of_ble_eq_true rfl) dX7_takeOver_84 h (fun h => j_bind h (fun S18 h => j_aload_n 1 dX7_takeOver_87 rfl (j_getR 7 6 f_RX7_30 dX7_takeOver_88 h (fun b19 h => j_iconst dX7_takeOver_91 (j_aload_n 0 dX7_takeOver_92 rfl (j_getR 7 6 f_RX7_30 dX7_takeOver_93 h (fun b20 h => j_iconst dX7_takeOver_96 (j_bipush dX7_takeOver_97 rfl (j_copy w_3_217 w_native w_3_218 w_1_11 (Nat.le_of_ble_eq_true rfl) dX7_takeOver_99 h (fun h => j_bind h (fun S21 h => j_aload_n 0 dX7_takeOver_102 rfl (j_aload_n 1 dX7_takeOver_103 rfl (j_getI 7 7 f_RX7_33 dX7_takeOver_104 h (fun h => j_putI 7 7 f_RX7_33 dX7_takeOver_107 h (fun h => j_aload_n 0 dX7_takeOver_110 rfl (j_aload_n 1 dX7_takeOver_111 rfl (j_getI 7 8 f_RX7_37 dX7_takeOver_112 h (fun h => j_putI 7 8 f_RX7_37 dX7_takeOver_115 h (fun h => j_aload_n 0 dX7_takeOver_118 rfl (j_aload_n 1 dX7_takeOver_119 rfl (j_getI 7 9 f_RX7_40 dX7_takeOver_120 h (fun h => j_putI 7 9 f_RX7_40 dX7_takeOver_123 h (fun h => j_bind h (fun S22 h => j_aload_n 0 dX7_takeOver_126 rfl (j_aload_n 1 dX7_takeOver_127 rfl (j_getI 7 10 f_RX7_43 dX7_takeOver_128 h (fun h => j_putI 7 10 f_RX7_43 dX7_takeOver_131 h (fun h => j_vret rfl dX7_takeOver_134 h))))))))))))))))))))))))))))))))))))))))))))))))))))))))))))))))))))))))))))))))
theorem MX7_takeOver {d : Nat} {x0 : Nat} {x1 : Nat} {S : MS} {Q : Out → MS → Prop} (h : VX7_takeOver_0 d Q x0 x1 S) : Mw hX7_takeOver yX7_takeOver (d + 1) [vA x0, vA x1] S Q := Mw.ofJ (by decide) (Nat.le_of_ble_eq_true rfl) (JX7_takeOver_0 _ _ S h)
theorem dX7_isThing_0 : decode cX7_isThing 0 = .ok (.iload_n 1, 1) := by decide +kernel
theorem dX7_isThing_1 : decode cX7_isThing 1 = .ok (.ifCond .lt 15, 3) := by decide +kernel
theorem dX7_isThing_4 : decode cX7_isThing 4 = .ok (.iload_n 1, 1) := by decide +kernel
theorem dX7_isThing_5 : decode cX7_isThing 5 = .ok (.aload_n 0, 1) := by decide +kernel
theorem dX7_isThing_6 : decode cX7_isThing 6 = .ok (.getfield 33, 3) := by decide +kernel
theorem dX7_isThing_9 : decode cX7_isThing 9 = .ok (.if_icmp .ge 7, 3) := by decide +kernel
theorem dX7_isThing_12 : decode cX7_isThing 12 = .ok (.iconst 1, 1) := by decide +kernel
theorem dX7_isThing_13 : decode cX7_isThing 13 = .ok (.goto 4, 3) := by decide +kernel
theorem dX7_isThing_16 : decode cX7_isThing 16 = .ok (.iconst 0, 1) := by decide +kernel
theorem dX7_isThing_17 : decode cX7_isThing 17 = .ok (.ireturn, 1) := by decide +kernel
def VX7_isThing_0 (d : Nat) (Q : Out → MS → Prop) (x0 : Nat) (x1 : Int) (S : MS) : Prop :=
  R32 x1 ∧ ((x1 < 0) → B01 0 ∧ Q (.inl (some (vI 0))) S) ∧ (¬ (x1 < 0) → S.K x0 = 7 ∧ ((R32 x1 ∧ R32 (S.I x0 7)) ∧ (((S.I x0 7) ≤ x1) → B01 0 ∧ Q (.inl (some (vI 0))) S) ∧ (¬ ((S.I x0 7) ≤ x1) → B01 1 ∧ Q (.inl (some (vI 1))) S)))
theorem JX7_isThing_0 {d : Nat} {S0 : MS} {Q : Out → MS → Prop} (x0 : Nat) (x1 : Int) (S : MS) (h : VX7_isThing_0 d Q x0 x1 S) : Jw FinM RX7 cX7_isThing 2 (some .boolean) [] yX7_isThing (d + 1) S0 S 0 [(0, vA x0), (1, vI x1)] [] Q :=
  j_iload_n 1 dX7_isThing_0 rfl (j_if_lt (tgt := 16) dX7_isThing_1 (by decide) h (fun h => j_iconst dX7_isThing_16 (j_zret rfl dX7_isThing_17 h)) (fun h => j_iload_n 1 dX7_isThing_4 rfl (j_aload_n 0 dX7_isThing_5 rfl (j_getI 7 7 f_RX7_33 dX7_isThing_6 h (fun h => j_icmp_ge (tgt := 16) dX7_isThing_9 (by decide) h (fun h => j_iconst dX7_isThing_16 (j_zret rfl dX7_isThing_17 h)) (fun h => j_iconst dX7_isThing_12 (j_goto (tgt := 17) dX7_isThing_13 (by decide) (j_zret rfl dX7_isThing_17 h))))))))
theorem MX7_isThing {d : Nat} {x0 : Nat} {x1 : Int} {S : MS} {Q : Out → MS → Prop} (h : VX7_isThing_0 d Q x0 x1 S) : Mw hX7_isThing yX7_isThing (d + 1) [vA x0, vI x1] S Q := Mw.ofJ (by decide) (Nat.le_of_ble_eq_true rfl) (JX7_isThing_0 _ _ S h)
theorem dX7_isSet_0 : decode cX7_isSet 0 = .ok (.iload_n 1, 1) := by decide +kernel
theorem dX7_isSet_1 : decode cX7_isSet 1 = .ok (.ifCond .lt 25, 3) := by decide +kernel
theorem dX7_isSet_4 : decode cX7_isSet 4 = .ok (.iload_n 1, 1) := by decide +kernel
theorem dX7_isSet_5 : decode cX7_isSet 5 = .ok (.iconst 1, 1) := by decide +kernel
theorem dX7_isSet_6 : decode cX7_isSet 6 = .ok (.aload_n 0, 1) := by decide +kernel
theorem dX7_isSet_7 : decode cX7_isSet 7 = .ok (.getfield 33, 3) := by decide +kernel
theorem dX7_isSet_10 : decode cX7_isSet 10 = .ok (.ishl, 1) := by decide +kernel
theorem dX7_isSet_11 : decode cX7_isSet 11 = .ok (.if_icmp .ge 15, 3) := by decide +kernel
theorem dX7_isSet_14 : decode cX7_isSet 14 = .ok (.iload_n 1, 1) := by decide +kernel
theorem dX7_isSet_15 : decode cX7_isSet 15 = .ok (.invokestatic 52, 3) := by decide +kernel
theorem dX7_isSet_18 : decode cX7_isSet 18 = .ok (.iload_n 2, 1) := by decide +kernel
theorem dX7_isSet_19 : decode cX7_isSet 19 = .ok (.if_icmp .ne 7, 3) := by decide +kernel
theorem dX7_isSet_22 : decode cX7_isSet 22 = .ok (.iconst 1, 1) := by decide +kernel
theorem dX7_isSet_23 : decode cX7_isSet 23 = .ok (.goto 4, 3) := by decide +kernel
theorem dX7_isSet_26 : decode cX7_isSet 26 = .ok (.iconst 0, 1) := by decide +kernel
theorem dX7_isSet_27 : decode cX7_isSet 27 = .ok (.ireturn, 1) := by decide +kernel
def VX7_isSet_0 (d : Nat) (Q : Out → MS → Prop) (x0 : Nat) (x1 : Int) (x2 : Int) (S : MS) : Prop :=
  R32 x1 ∧ ((x1 < 0) → B01 0 ∧ Q (.inl (some (vI 0))) S) ∧ (¬ (x1 < 0) → S.K x0 = 7 ∧ ((R32 x1 ∧ R32 (iShl 1 (S.I x0 7))) ∧ (((iShl 1 (S.I x0 7)) ≤ x1) → B01 0 ∧ Q (.inl (some (vI 0))) S) ∧ (¬ ((iShl 1 (S.I x0 7)) ≤ x1) → Mw hJ6_bitCount_0f7a4 yJ6_bitCount_0f7a4 d [vI x1] S (oI (fun r1 S1 => (R32 r1 ∧ R32 x2) ∧ (¬ (r1 = x2) → B01 0 ∧ Q (.inl (some (vI 0))) S1) ∧ ((r1 = x2) → B01 1 ∧ Q (.inl (some (vI 1))) S1))))))
theorem JX7_isSet_0 {d : Nat} {S0 : MS} {Q : Out → MS → Prop} (x0 : Nat) (x1 : Int) (x2 : Int) (S : MS) (h : VX7_isSet_0 d Q x0 x1 x2 S) : Jw FinM RX7 cX7_isSet 3 (some .boolean) [] yX7_isSet (d + 1) S0 S 0 [(0, vA x0), (1, vI x1), (2, vI x2)] [] Q :=
  j_iload_n 1 dX7_isSet_0 rfl (j_if_lt (tgt := 26) dX7_isSet_1 (by decide) h (fun h => j_iconst dX7_isSet_26 (j_zret rfl dX7_isSet_27 h)) (fun h => j_iload_n 1 dX7_isSet_4 rfl (j_iconst dX7_isSet_5 (j_aload_n 0 dX7_isSet_6 rfl (j_getI 7 7 f_RX7_33 dX7_isSet_7 h (fun h => j_ishl dX7_isSet_10 (j_icmp_ge (tgt := 26) dX7_isSet_11 (by decide) h (fun h => j_iconst dX7_isSet_26 (j_zret rfl dX7_isSet_27 h)) (fun h => j_iload_n 1 dX7_isSet_14 rfl (j_callS (rest := []) [vI x1] k_RX7_52 w_2_86 rfl rfl (Nat.le_of_ble_eq_true rfl) dX7_isSet_15 h (kI (fun r1 S1 h => j_iload_n 2 dX7_isSet_18 rfl (j_icmp_ne (tgt := 26) dX7_isSet_19 (by decide) h (fun h => j_iconst dX7_isSet_26 (j_zret rfl dX7_isSet_27 h)) (fun h => j_iconst dX7_isSet_22 (j_goto (tgt := 27) dX7_isSet_23 (by decide) (j_zret rfl dX7_isSet_27 h)))))) (fun _ _ h => h.elim))))))))))
theorem MX7_isSet {d : Nat} {x0 : Nat} {x1 : Int} {x2 : Int} {S : MS} {Q : Out → MS → Prop} (h : VX7_isSet_0 d Q x0 x1 x2 S) : Mw hX7_isSet yX7_isSet (d + 1) [vA x0, vI x1, vI x2] S Q := Mw.ofJ (by decide) (Nat.le_of_ble_eq_true rfl) (JX7_isSet_0 _ _ _ S h)
theorem dX7_setThings_0 : decode cX7_setThings 0 = .ok (.aload_n 0, 1) := by decide +kernel
theorem dX7_setThings_1 : decode cX7_setThings 1 = .ok (.iload_n 1, 1) := by decide +kernel
theorem dX7_setThings_2 : decode cX7_setThings 2 = .ok (.putfield 33, 3) := by decide +kernel
theorem dX7_setThings_5 : decode cX7_setThings 5 = .ok (.iload_n 1, 1) := by decide +kernel
theorem dX7_setThings_6 : decode cX7_setThings 6 = .ok (.istore_n 2, 1) := by decide +kernel
theorem dX7_setThings_7 : decode cX7_setThings 7 = .ok (.iload_n 2, 1) := by decide +kernel
theorem dX7_setThings_8 : decode cX7_setThings 8 = .ok (.bipush 7, 2) := by decide +kernel
theorem dX7_setThings_10 : decode cX7_setThings 10 = .ok (.if_icmp .ge 16, 3) := by decide +kernel
theorem dX7_setThings_13 : decode cX7_setThings 13 = .ok (.aload_n 0, 1) := by decide +kernel
theorem dX7_setThings_14 : decode cX7_setThings 14 = .ok (.getfield 9, 3) := by decide +kernel
theorem dX7_setThings_17 : decode cX7_setThings 17 = .ok (.iload_n 2, 1) := by decide +kernel
theorem dX7_setThings_18 : decode cX7_setThings 18 = .ok (.iconst 0, 1) := by decide +kernel
theorem dX7_setThings_19 : decode cX7_setThings 19 = .ok (.iastore, 1) := by decide +kernel
theorem dX7_setThings_20 : decode cX7_setThings 20 = .ok (.iinc 2 1, 3) := by decide +kernel
theorem dX7_setThings_23 : decode cX7_setThings 23 = .ok (.goto (-16), 3) := by decide +kernel
theorem dX7_setThings_26 : decode cX7_setThings 26 = .ok (.return_, 1) := by decide +kernel
def VX7_setThings_7 (d : Nat) (Q : Out → MS → Prop) : Nat → Nat → Int → MS → Prop
  | 0, _, _, _ => False
  | n + 1, x0, x2, S => (R32 x2 ∧ R32 (7 : Int)) ∧ (((7 : Int) ≤ x2) → Q (.inl none) S) ∧ (¬ ((7 : Int) ≤ x2) → S.K x0 = 7 ∧ ∃ b1, S.R x0 0 = some b1 ∧ ((S.K b1 = 13 ∧ 0 ≤ x2 ∧ x2 < S.N b1) ∧ ((VX7_setThings_7 d Q n) x0 (x2 + 1) (S.setI b1 (x2).toNat 0))))
theorem JX7_setThings_7 {d : Nat} {S0 : MS} {Q : Out → MS → Prop} : ∀ (n : Nat) (x0 : Nat) (x2 : Int) (S : MS), VX7_setThings_7 d Q n x0 x2 S → Jw FinM RX7 cX7_setThings 3 none [] yX7_setThings (d + 1) S0 S 7 [(0, vA x0), (2, vI x2)] [] Q := by
  intro n
  induction n with
  | zero => intro x0 x2 S h; exact h.elim
  | succ n ih =>
    intro x0 x2 S h
    exact j_iload_n 1 dX7_setThings_7 rfl (j_bipush dX7_setThings_8 rfl (j_icmp_ge (tgt := 26) dX7_setThings_10 (by decide) h (fun h => j_vret rfl dX7_setThings_26 h) (fun h => j_aload_n 0 dX7_setThings_13 rfl (j_getR 7 0 f_RX7_9 dX7_setThings_14 h (fun b1 h => j_iload_n 1 dX7_setThings_17 rfl (j_iconst dX7_setThings_18 (j_iast dX7_setThings_19 h (fun h => j_iinc 1 (lv2 := [(2, vI (x2 + 1)), (0, vA x0)]) dX7_setThings_20 rfl (by decide) rfl (j_goto (tgt := 7) dX7_setThings_23 (by decide) (j_sub [1, 0] rfl (ih _ _ _ h)))))))))))
def VX7_setThings_0 (d : Nat) (Q : Out → MS → Prop) (x0 : Nat) (x1 : Int) (S : MS) : Prop :=
  S.K x0 = 7 ∧ (∃ m, VX7_setThings_7 d Q m x0 x1 (S.setI x0 7 x1))
theorem JX7_setThings_0 {d : Nat} {S0 : MS} {Q : Out → MS → Prop} (x0 : Nat) (x1 : Int) (S : MS) (h : VX7_setThings_0 d Q x0 x1 S) : Jw FinM RX7 cX7_setThings 3 none [] yX7_setThings (d + 1) S0 S 0 [(0, vA x0), (1, vI x1)] [] Q :=
  j_aload_n 0 dX7_setThings_0 rfl (j_iload_n 1 dX7_setThings_1 rfl (j_putI 7 7 f_RX7_33 dX7_setThings_2 h (fun h => j_iload_n 1 dX7_setThings_5 rfl (j_istore_n (lv2 := [(2, vI x1), (0, vA x0), (1, vI x1)]) dX7_setThings_6 (by decide) rfl (Exists.elim h (fun m h => j_sub [1, 0] rfl (JX7_setThings_7 m _ _ _ h)))))))
theorem MX7_setThings {d : Nat} {x0 : Nat} {x1 : Int} {S : MS} {Q : Out → MS → Prop} (h : VX7_setThings_0 d Q x0 x1 S) : Mw hX7_setThings yX7_setThings (d + 1) [vA x0, vI x1] S Q := Mw.ofJ (by decide) (Nat.le_of_ble_eq_true rfl) (JX7_setThings_0 _ _ S h)
theorem dX7_addScale_0 : decode cX7_addScale 0 = .ok (.aload_n 0, 1) := by decide +kernel
theorem dX7_addScale_1 : decode cX7_addScale 1 = .ok (.getfield 37, 3) := by decide +kernel
theorem dX7_addScale_4 : decode cX7_addScale 4 = .ok (.istore 4, 2) := by decide +kernel
theorem dX7_addScale_6 : decode cX7_addScale 6 = .ok (.iload 4, 2) := by decide +kernel
theorem dX7_addScale_8 : decode cX7_addScale 8 = .ok (.iconst 4, 1) := by decide +kernel
theorem dX7_addScale_9 : decode cX7_addScale 9 = .ok (.if_icmp .ge 37, 3) := by decide +kernel
theorem dX7_addScale_12 : decode cX7_addScale 12 = .ok (.aload_n 0, 1) := by decide +kernel
theorem dX7_addScale_13 : decode cX7_addScale 13 = .ok (.getfield 15, 3) := by decide +kernel
theorem dX7_addScale_16 : decode cX7_addScale 16 = .ok (.iload 4, 2) := by decide +kernel
theorem dX7_addScale_18 : decode cX7_addScale 18 = .ok (.iload_n 1, 1) := by decide +kernel
theorem dX7_addScale_19 : decode cX7_addScale 19 = .ok (.iastore, 1) := by decide +kernel
theorem dX7_addScale_20 : decode cX7_addScale 20 = .ok (.aload_n 0, 1) := by decide +kernel
theorem dX7_addScale_21 : decode cX7_addScale 21 = .ok (.getfield 18, 3) := by decide +kernel
theorem dX7_addScale_24 : decode cX7_addScale 24 = .ok (.iload 4, 2) := by decide +kernel
theorem dX7_addScale_26 : decode cX7_addScale 26 = .ok (.iload_n 2, 1) := by decide +kernel
theorem dX7_addScale_27 : decode cX7_addScale 27 = .ok (.iastore, 1) := by decide +kernel
theorem dX7_addScale_28 : decode cX7_addScale 28 = .ok (.aload_n 0, 1) := by decide +kernel
theorem dX7_addScale_29 : decode cX7_addScale 29 = .ok (.getfield 21, 3) := by decide +kernel
theorem dX7_addScale_32 : decode cX7_addScale 32 = .ok (.iload 4, 2) := by decide +kernel
theorem dX7_addScale_34 : decode cX7_addScale 34 = .ok (.iload_n 3, 1) := by decide +kernel
theorem dX7_addScale_35 : decode cX7_addScale 35 = .ok (.iastore, 1) := by decide +kernel
theorem dX7_addScale_36 : decode cX7_addScale 36 = .ok (.aload_n 0, 1) := by decide +kernel
theorem dX7_addScale_37 : decode cX7_addScale 37 = .ok (.dup, 1) := by decide +kernel
theorem dX7_addScale_38 : decode cX7_addScale 38 = .ok (.getfield 37, 3) := by decide +kernel
theorem dX7_addScale_41 : decode cX7_addScale 41 = .ok (.iconst 1, 1) := by decide +kernel
theorem dX7_addScale_42 : decode cX7_addScale 42 = .ok (.iadd, 1) := by decide +kernel
theorem dX7_addScale_43 : decode cX7_addScale 43 = .ok (.putfield 37, 3) := by decide +kernel
theorem dX7_addScale_46 : decode cX7_addScale 46 = .ok (.iload 4, 2) := by decide +kernel
theorem dX7_addScale_48 : decode cX7_addScale 48 = .ok (.ireturn, 1) := by decide +kernel
def VX7_addScale_46 (d : Nat) (Q : Out → MS → Prop) (x4 : Int) (S : MS) : Prop :=
  Q (.inl (some (vI x4))) S
theorem JX7_addScale_46 {d : Nat} {S0 : MS} {Q : Out → MS → Prop} (x4 : Int) (S : MS) (h : VX7_addScale_46 d Q x4 S) : Jw FinM RX7 cX7_addScale 5 (some .int) [] yX7_addScale (d + 1) S0 S 46 [(4, vI x4)] [] Q :=
  j_iload 0 dX7_addScale_46 rfl (j_iret rfl dX7_addScale_48 h)
def VX7_addScale_0 (d : Nat) (Q : Out → MS → Prop) (x0 : Nat) (x1 : Int) (x2 : Int) (x3 : Int) (S : MS) : Prop :=
  S.K x0 = 7 ∧ ((R32 (S.I x0 8) ∧ R32 (4 : Int)) ∧ (((4 : Int) ≤ (S.I x0 8)) → VX7_addScale_46 d Q (S.I x0 8) S) ∧ (¬ ((4 : Int) ≤ (S.I x0 8)) → S.K x0 = 7 ∧ ∃ b1, S.R x0 1 = some b1 ∧ ((S.K b1 = 13 ∧ 0 ≤ (S.I x0 8) ∧ (S.I x0 8) < S.N b1) ∧ ((S.setI b1 ((S.I x0 8)).toNat x1).K x0 = 7 ∧ ∃ b2, (S.setI b1 ((S.I x0 8)).toNat x1).R x0 2 = some b2 ∧ (((S.setI b1 ((S.I x0 8)).toNat x1).K b2 = 13 ∧ 0 ≤ (S.I x0 8) ∧ (S.I x0 8) < (S.setI b1 ((S.I x0 8)).toNat x1).N b2) ∧ (((S.setI b1 ((S.I x0 8)).toNat x1).setI b2 ((S.I x0 8)).toNat x2).K x0 = 7 ∧ ∃ b3, ((S.setI b1 ((S.I x0 8)).toNat x1).setI b2 ((S.I x0 8)).toNat x2).R x0 3 = some b3 ∧ ((((S.setI b1 ((S.I x0 8)).toNat x1).setI b2 ((S.I x0 8)).toNat x2).K b3 = 13 ∧ 0 ≤ (S.I x0 8) ∧ (S.I x0 8) < ((S.setI b1 ((S.I x0 8)).toNat x1).setI b2 ((S.I x0 8)).toNat x2).N b3) ∧ (∀ S4 : MS, S4 = ((S.setI b1 ((S.I x0 8)).toNat x1).setI b2 ((S.I x0 8)).toNat x2).setI b3 ((S.I x0 8)).toNat x3 → S4.K x0 = 7 ∧ (S4.K x0 = 7 ∧ (VX7_addScale_46 d Q (S.I x0 8) (S4.setI x0 8 ((S4.I x0 8) + 1))))))))))))
theorem JX7_addScale_0 {d : Nat} {S0 : MS} {Q : Out → MS → Prop} (x0 : Nat) (x1 : Int) (x2 : Int) (x3 : Int) (S : MS) (h : VX7_addScale_0 d Q x0 x1 x2 x3 S) : Jw FinM RX7 cX7_addScale 5 (some .int) [] yX7_addScale (d + 1) S0 S 0 [(0, vA x0), (1, vI x1), (2, vI x2), (3, vI x3)] [] Q :=
  j_aload_n 0 dX7_addScale_0 rfl (j_getI 7 8 f_RX7_37 dX7_addScale_1 h (fun h => j_istore (lv2 := [(4, vI (S.I x0 8)), (0, vA x0), (1, vI x1), (2, vI x2), (3, vI x3)]) dX7_addScale_4 (by decide) rfl (j_iload 0 dX7_addScale_6 rfl (j_iconst dX7_addScale_8 (j_icmp_ge (tgt := 46) dX7_addScale_9 (by decide) h (fun h => j_sub [0] rfl (JX7_addScale_46 _ _ h)) (fun h => j_aload_n 1 dX7_addScale_12 rfl (j_getR 7 1 f_RX7_15 dX7_addScale_13 h (fun b1 h => j_iload 0 dX7_addScale_16 rfl (j_iload_n 2 dX7_addScale_18 rfl (j_iast dX7_addScale_19 h (fun h => j_aload_n 1 dX7_addScale_20 rfl (j_getR 7 2 f_RX7_18 dX7_addScale_21 h (fun b2 h => j_iload 0 dX7_addScale_24 rfl (j_iload_n 3 dX7_addScale_26 rfl (j_iast dX7_addScale_27 h (fun h => j_aload_n 1 dX7_addScale_28 rfl (j_getR 7 3 f_RX7_21 dX7_addScale_29 h (fun b3 h => j_iload 0 dX7_addScale_32 rfl (j_iload_n 4 dX7_addScale_34 rfl (j_iast dX7_addScale_35 h (fun h => j_bind h (fun S4 h => j_aload_n 1 dX7_addScale_36 rfl (j_dup rfl dX7_addScale_37 (j_getI 7 8 f_RX7_37 dX7_addScale_38 h (fun h => j_iconst dX7_addScale_41 (j_iadd dX7_addScale_42 (j_putI 7 8 f_RX7_37 dX7_addScale_43 h (fun h => j_sub [0] rfl (JX7_addScale_46 _ _ h)))))))))))))))))))))))))))))
theorem MX7_addScale {d : Nat} {x0 : Nat} {x1 : Int} {x2 : Int} {x3 : Int} {S : MS} {Q : Out → MS → Prop} (h : VX7_addScale_0 d Q x0 x1 x2 x3 S) : Mw hX7_addScale yX7_addScale (d + 1) [vA x0, vI x1, vI x2, vI x3] S Q := Mw.ofJ (by decide) (Nat.le_of_ble_eq_true rfl) (JX7_addScale_0 _ _ _ _ S h)
theorem dX7_addNote_0 : decode cX7_addNote 0 = .ok (.aload_n 0, 1) := by decide +kernel
theorem dX7_addNote_1 : decode cX7_addNote 1 = .ok (.getfield 40, 3) := by decide +kernel
theorem dX7_addNote_4 : decode cX7_addNote 4 = .ok (.istore 4, 2) := by decide +kernel
theorem dX7_addNote_6 : decode cX7_addNote 6 = .ok (.iload 4, 2) := by decide +kernel
theorem dX7_addNote_8 : decode cX7_addNote 8 = .ok (.bipush 16, 2) := by decide +kernel
theorem dX7_addNote_10 : decode cX7_addNote 10 = .ok (.if_icmp .ge 37, 3) := by decide +kernel
theorem dX7_addNote_13 : decode cX7_addNote 13 = .ok (.aload_n 0, 1) := by decide +kernel
theorem dX7_addNote_14 : decode cX7_addNote 14 = .ok (.getfield 24, 3) := by decide +kernel
theorem dX7_addNote_17 : decode cX7_addNote 17 = .ok (.iload 4, 2) := by decide +kernel
theorem dX7_addNote_19 : decode cX7_addNote 19 = .ok (.iload_n 1, 1) := by decide +kernel
theorem dX7_addNote_20 : decode cX7_addNote 20 = .ok (.iastore, 1) := by decide +kernel
theorem dX7_addNote_21 : decode cX7_addNote 21 = .ok (.aload_n 0, 1) := by decide +kernel
theorem dX7_addNote_22 : decode cX7_addNote 22 = .ok (.getfield 27, 3) := by decide +kernel
theorem dX7_addNote_25 : decode cX7_addNote 25 = .ok (.iload 4, 2) := by decide +kernel
theorem dX7_addNote_27 : decode cX7_addNote 27 = .ok (.iload_n 2, 1) := by decide +kernel
theorem dX7_addNote_28 : decode cX7_addNote 28 = .ok (.iastore, 1) := by decide +kernel
theorem dX7_addNote_29 : decode cX7_addNote 29 = .ok (.aload_n 0, 1) := by decide +kernel
theorem dX7_addNote_30 : decode cX7_addNote 30 = .ok (.getfield 30, 3) := by decide +kernel
theorem dX7_addNote_33 : decode cX7_addNote 33 = .ok (.iload 4, 2) := by decide +kernel
theorem dX7_addNote_35 : decode cX7_addNote 35 = .ok (.iload_n 3, 1) := by decide +kernel
theorem dX7_addNote_36 : decode cX7_addNote 36 = .ok (.iastore, 1) := by decide +kernel
theorem dX7_addNote_37 : decode cX7_addNote 37 = .ok (.aload_n 0, 1) := by decide +kernel
theorem dX7_addNote_38 : decode cX7_addNote 38 = .ok (.dup, 1) := by decide +kernel
theorem dX7_addNote_39 : decode cX7_addNote 39 = .ok (.getfield 40, 3) := by decide +kernel
theorem dX7_addNote_42 : decode cX7_addNote 42 = .ok (.iconst 1, 1) := by decide +kernel
theorem dX7_addNote_43 : decode cX7_addNote 43 = .ok (.iadd, 1) := by decide +kernel
theorem dX7_addNote_44 : decode cX7_addNote 44 = .ok (.putfield 40, 3) := by decide +kernel
theorem dX7_addNote_47 : decode cX7_addNote 47 = .ok (.iload 4, 2) := by decide +kernel
theorem dX7_addNote_49 : decode cX7_addNote 49 = .ok (.ireturn, 1) := by decide +kernel
def VX7_addNote_47 (d : Nat) (Q : Out → MS → Prop) (x4 : Int) (S : MS) : Prop :=
  Q (.inl (some (vI x4))) S
theorem JX7_addNote_47 {d : Nat} {S0 : MS} {Q : Out → MS → Prop} (x4 : Int) (S : MS) (h : VX7_addNote_47 d Q x4 S) : Jw FinM RX7 cX7_addNote 5 (some .int) [] yX7_addNote (d + 1) S0 S 47 [(4, vI x4)] [] Q :=
  j_iload 0 dX7_addNote_47 rfl (j_iret rfl dX7_addNote_49 h)
def VX7_addNote_0 (d : Nat) (Q : Out → MS → Prop) (x0 : Nat) (x1 : Int) (x2 : Int) (x3 : Int) (S : MS) : Prop :=
  S.K x0 = 7 ∧ ((R32 (S.I x0 9) ∧ R32 (16 : Int)) ∧ (((16 : Int) ≤ (S.I x0 9)) → VX7_addNote_47 d Q (S.I x0 9) S) ∧ (¬ ((16 : Int) ≤ (S.I x0 9)) → S.K x0 = 7 ∧ ∃ b1, S.R x0 4 = some b1 ∧ ((S.K b1 = 13 ∧ 0 ≤ (S.I x0 9) ∧ (S.I x0 9) < S.N b1) ∧ ((S.setI b1 ((S.I x0 9)).toNat x1).K x0 = 7 ∧ ∃ b2, (S.setI b1 ((S.I x0 9)).toNat x1).R x0 5 = some b2 ∧ (((S.setI b1 ((S.I x0 9)).toNat x1).K b2 = 13 ∧ 0 ≤ (S.I x0 9) ∧ (S.I x0 9) < (S.setI b1 ((S.I x0 9)).toNat x1).N b2) ∧ (((S.setI b1 ((S.I x0 9)).toNat x1).setI b2 ((S.I x0 9)).toNat x2).K x0 = 7 ∧ ∃ b3, ((S.setI b1 ((S.I x0 9)).toNat x1).setI b2 ((S.I x0 9)).toNat x2).R x0 6 = some b3 ∧ ((((S.setI b1 ((S.I x0 9)).toNat x1).setI b2 ((S.I x0 9)).toNat x2).K b3 = 13 ∧ 0 ≤ (S.I x0 9) ∧ (S.I x0 9) < ((S.setI b1 ((S.I x0 9)).toNat x1).setI b2 ((S.I x0 9)).toNat x2).N b3) ∧ (∀ S4 : MS, S4 = ((S.setI b1 ((S.I x0 9)).toNat x1).setI b2 ((S.I x0 9)).toNat x2).setI b3 ((S.I x0 9)).toNat x3 → S4.K x0 = 7 ∧ (S4.K x0 = 7 ∧ (VX7_addNote_47 d Q (S.I x0 9) (S4.setI x0 9 ((S4.I x0 9) + 1))))))))))))
theorem JX7_addNote_0 {d : Nat} {S0 : MS} {Q : Out → MS → Prop} (x0 : Nat) (x1 : Int) (x2 : Int) (x3 : Int) (S : MS) (h : VX7_addNote_0 d Q x0 x1 x2 x3 S) : Jw FinM RX7 cX7_addNote 5 (some .int) [] yX7_addNote (d + 1) S0 S 0 [(0, vA x0), (1, vI x1), (2, vI x2), (3, vI x3)] [] Q :=
  j_aload_n 0 dX7_addNote_0 rfl (j_getI 7 9 f_RX7_40 dX7_addNote_1 h (fun h => j_istore (lv2 := [(4, vI (S.I x0 9)), (0, vA x0), (1, vI x1), (2, vI x2), (3, vI x3)]) dX7_addNote_4 (by decide) rfl (j_iload 0 dX7_addNote_6 rfl (j_bipush dX7_addNote_8 rfl (j_icmp_ge (tgt := 47) dX7_addNote_10 (by decide) h (fun h => j_sub [0] rfl (JX7_addNote_47 _ _ h)) (fun h => j_aload_n 1 dX7_addNote_13 rfl (j_getR 7 4 f_RX7_24 dX7_addNote_14 h (fun b1 h => j_iload 0 dX7_addNote_17 rfl (j_iload_n 2 dX7_addNote_19 rfl (j_iast dX7_addNote_20 h (fun h => j_aload_n 1 dX7_addNote_21 rfl (j_getR 7 5 f_RX7_27 dX7_addNote_22 h (fun b2 h => j_iload 0 dX7_addNote_25 rfl (j_iload_n 3 dX7_addNote_27 rfl (j_iast dX7_addNote_28 h (fun h => j_aload_n 1 dX7_addNote_29 rfl (j_getR 7 6 f_RX7_30 dX7_addNote_30 h (fun b3 h => j_iload 0 dX7_addNote_33 rfl (j_iload_n 4 dX7_addNote_35 rfl (j_iast dX7_addNote_36 h (fun h => j_bind h (fun S4 h => j_aload_n 1 dX7_addNote_37 rfl (j_dup rfl dX7_addNote_38 (j_getI 7 9 f_RX7_40 dX7_addNote_39 h (fun h => j_iconst dX7_addNote_42 (j_iadd dX7_addNote_43 (j_putI 7 9 f_RX7_40 dX7_addNote_44 h (fun h => j_sub [0] rfl (JX7_addNote_47 _ _ h)))))))))))))))))))))))))))))
theorem MX7_addNote {d : Nat} {x0 : Nat} {x1 : Int} {x2 : Int} {x3 : Int} {S : MS} {Q : Out → MS → Prop} (h : VX7_addNote_0 d Q x0 x1 x2 x3 S) : Mw hX7_addNote yX7_addNote (d + 1) [vA x0, vI x1, vI x2, vI x3] S Q := Mw.ofJ (by decide) (Nat.le_of_ble_eq_true rfl) (JX7_addNote_0 _ _ _ _ S h)
theorem dX7_putAway_0 : decode cX7_putAway 0 = .ok (.iload_n 1, 1) := by decide +kernel
theorem dX7_putAway_1 : decode cX7_putAway 1 = .ok (.istore_n 2, 1) := by decide +kernel
theorem dX7_putAway_2 : decode cX7_putAway 2 = .ok (.iload_n 2, 1) := by decide +kernel
theorem dX7_putAway_3 : decode cX7_putAway 3 = .ok (.iconst 1, 1) := by decide +kernel
theorem dX7_putAway_4 : decode cX7_putAway 4 = .ok (.iadd, 1) := by decide +kernel
theorem dX7_putAway_5 : decode cX7_putAway 5 = .ok (.aload_n 0, 1) := by decide +kernel
theorem dX7_putAway_6 : decode cX7_putAway 6 = .ok (.getfield 40, 3) := by decide +kernel
theorem dX7_putAway_9 : decode cX7_putAway 9 = .ok (.if_icmp .ge 51, 3) := by decide +kernel
theorem dX7_putAway_12 : decode cX7_putAway 12 = .ok (.aload_n 0, 1) := by decide +kernel
theorem dX7_putAway_13 : decode cX7_putAway 13 = .ok (.getfield 24, 3) := by decide +kernel
theorem dX7_putAway_16 : decode cX7_putAway 16 = .ok (.iload_n 2, 1) := by decide +kernel
theorem dX7_putAway_17 : decode cX7_putAway 17 = .ok (.aload_n 0, 1) := by decide +kernel
theorem dX7_putAway_18 : decode cX7_putAway 18 = .ok (.getfield 24, 3) := by decide +kernel
theorem dX7_putAway_21 : decode cX7_putAway 21 = .ok (.iload_n 2, 1) := by decide +kernel
theorem dX7_putAway_22 : decode cX7_putAway 22 = .ok (.iconst 1, 1) := by decide +kernel
theorem dX7_putAway_23 : decode cX7_putAway 23 = .ok (.iadd, 1) := by decide +kernel
theorem dX7_putAway_24 : decode cX7_putAway 24 = .ok (.iaload, 1) := by decide +kernel
theorem dX7_putAway_25 : decode cX7_putAway 25 = .ok (.iastore, 1) := by decide +kernel
theorem dX7_putAway_26 : decode cX7_putAway 26 = .ok (.aload_n 0, 1) := by decide +kernel
theorem dX7_putAway_27 : decode cX7_putAway 27 = .ok (.getfield 27, 3) := by decide +kernel
theorem dX7_putAway_30 : decode cX7_putAway 30 = .ok (.iload_n 2, 1) := by decide +kernel
theorem dX7_putAway_31 : decode cX7_putAway 31 = .ok (.aload_n 0, 1) := by decide +kernel
theorem dX7_putAway_32 : decode cX7_putAway 32 = .ok (.getfield 27, 3) := by decide +kernel
theorem dX7_putAway_35 : decode cX7_putAway 35 = .ok (.iload_n 2, 1) := by decide +kernel
theorem dX7_putAway_36 : decode cX7_putAway 36 = .ok (.iconst 1, 1) := by decide +kernel
theorem dX7_putAway_37 : decode cX7_putAway 37 = .ok (.iadd, 1) := by decide +kernel
theorem dX7_putAway_38 : decode cX7_putAway 38 = .ok (.iaload, 1) := by decide +kernel
theorem dX7_putAway_39 : decode cX7_putAway 39 = .ok (.iastore, 1) := by decide +kernel
theorem dX7_putAway_40 : decode cX7_putAway 40 = .ok (.aload_n 0, 1) := by decide +kernel
theorem dX7_putAway_41 : decode cX7_putAway 41 = .ok (.getfield 30, 3) := by decide +kernel
theorem dX7_putAway_44 : decode cX7_putAway 44 = .ok (.iload_n 2, 1) := by decide +kernel
theorem dX7_putAway_45 : decode cX7_putAway 45 = .ok (.aload_n 0, 1) := by decide +kernel
theorem dX7_putAway_46 : decode cX7_putAway 46 = .ok (.getfield 30, 3) := by decide +kernel
theorem dX7_putAway_49 : decode cX7_putAway 49 = .ok (.iload_n 2, 1) := by decide +kernel
theorem dX7_putAway_50 : decode cX7_putAway 50 = .ok (.iconst 1, 1) := by decide +kernel
theorem dX7_putAway_51 : decode cX7_putAway 51 = .ok (.iadd, 1) := by decide +kernel
theorem dX7_putAway_52 : decode cX7_putAway 52 = .ok (.iaload, 1) := by decide +kernel
theorem dX7_putAway_53 : decode cX7_putAway 53 = .ok (.iastore, 1) := by decide +kernel
theorem dX7_putAway_54 : decode cX7_putAway 54 = .ok (.iinc 2 1, 3) := by decide +kernel
theorem dX7_putAway_57 : decode cX7_putAway 57 = .ok (.goto (-55), 3) := by decide +kernel
theorem dX7_putAway_60 : decode cX7_putAway 60 = .ok (.aload_n 0, 1) := by decide +kernel
theorem dX7_putAway_61 : decode cX7_putAway 61 = .ok (.dup, 1) := by decide +kernel
theorem dX7_putAway_62 : decode cX7_putAway 62 = .ok (.getfield 40, 3) := by decide +kernel
theorem dX7_putAway_65 : decode cX7_putAway 65 = .ok (.iconst 1, 1) := by decide +kernel
theorem dX7_putAway_66 : decode cX7_putAway 66 = .ok (.isub, 1) := by decide +kernel
theorem dX7_putAway_67 : decode cX7_putAway 67 = .ok (.putfield 40, 3) := by decide +kernel
theorem dX7_putAway_70 : decode cX7_putAway 70 = .ok (.return_, 1) := by decide +kernel
def VX7_putAway_2 (d : Nat) (Q : Out → MS → Prop) : Nat → Nat → Int → MS → Prop
  | 0, _, _, _ => False
  | n + 1, x0, x2, S => S.K x0 = 7 ∧ ((R32 (x2 + 1) ∧ R32 (S.I x0 9)) ∧ (((S.I x0 9) ≤ (x2 + 1)) → S.K x0 = 7 ∧ (S.K x0 = 7 ∧ (Q (.inl none) (S.setI x0 9 ((S.I x0 9) - 1))))) ∧ (¬ ((S.I x0 9) ≤ (x2 + 1)) → S.K x0 = 7 ∧ ∃ b1, S.R x0 4 = some b1 ∧ (S.K x0 = 7 ∧ ∃ b2, S.R x0 4 = some b2 ∧ ((S.K b2 = 13 ∧ 0 ≤ (x2 + 1) ∧ (x2 + 1) < S.N b2) ∧ ((S.K b1 = 13 ∧ 0 ≤ x2 ∧ x2 < S.N b1) ∧ ((S.setI b1 (x2).toNat (S.I b2 ((x2 + 1)).toNat)).K x0 = 7 ∧ ∃ b3, (S.setI b1 (x2).toNat (S.I b2 ((x2 + 1)).toNat)).R x0 5 = some b3 ∧ ((S.setI b1 (x2).toNat (S.I b2 ((x2 + 1)).toNat)).K x0 = 7 ∧ ∃ b4, (S.setI b1 (x2).toNat (S.I b2 ((x2 + 1)).toNat)).R x0 5 = some b4 ∧ (((S.setI b1 (x2).toNat (S.I b2 ((x2 + 1)).toNat)).K b4 = 13 ∧ 0 ≤ (x2 + 1) ∧ (x2 + 1) < (S.setI b1 (x2).toNat (S.I b2 ((x2 + 1)).toNat)).N b4) ∧ (((S.setI b1 (x2).toNat (S.I b2 ((x2 + 1)).toNat)).K b3 = 13 ∧ 0 ≤ x2 ∧ x2 < (S.setI b1 (x2).toNat (S.I b2 ((x2 + 1)).toNat)).N b3) ∧ (∀ S5 : MS, S5 = (S.setI b1 (x2).toNat (S.I b2 ((x2 + 1)).toNat)).setI b3 (x2).toNat ((S.setI b1 (x2).toNat (S.I b2 ((x2 + 1)).toNat)).I b4 ((x2 + 1)).toNat) → S5.K x0 = 7 ∧ ∃ b6, S5.R x0 6 = some b6 ∧ (S5.K x0 = 7 ∧ ∃ b7, S5.R x0 6 = some b7 ∧ ((S5.K b7 = 13 ∧ 0 ≤ (x2 + 1) ∧ (x2 + 1) < S5.N b7) ∧ ((S5.K b6 = 13 ∧ 0 ≤ x2 ∧ x2 < S5.N b6) ∧ ((VX7_putAway_2 d Q n) x0 (x2 + 1) (S5.setI b6 (x2).toNat (S5.I b7 ((x2 + 1)).toNat))))))))))))))))
theorem JX7_putAway_2 {d : Nat} {S0 : MS} {Q : Out → MS → Prop} : ∀ (n : Nat) (x0 : Nat) (x2 : Int) (S : MS), VX7_putAway_2 d Q n x0 x2 S → Jw FinM RX7 cX7_putAway 3 none [] yX7_putAway (d + 1) S0 S 2 [(0, vA x0), (2, vI x2)] [] Q := by
  intro n
  induction n with
  | zero => intro x0 x2 S h; exact h.elim
  | succ n ih =>
    intro x0 x2 S h
    exact j_iload_n 1 dX7_putAway_2 rfl (j_iconst dX7_putAway_3 (j_iadd dX7_putAway_4 (j_aload_n 0 dX7_putAway_5 rfl (j_getI 7 9 f_RX7_40 dX7_putAway_6 h (fun h => j_icmp_ge (tgt := 60) dX7_putAway_9 (by decide) h (fun h => j_aload_n 0 dX7_putAway_60 rfl (j_dup rfl dX7_putAway_61 (j_getI 7 9 f_RX7_40 dX7_putAway_62 h (fun h => j_iconst dX7_putAway_65 (j_isub dX7_putAway_66 (j_putI 7 9 f_RX7_40 dX7_putAway_67 h (fun h => j_vret rfl dX7_putAway_70 h))))))) (fun h => j_aload_n 0 dX7_putAway_12 rfl (j_getR 7 4 f_RX7_24 dX7_putAway_13 h (fun b1 h => j_iload_n 1 dX7_putAway_16 rfl (j_aload_n 0 dX7_putAway_17 rfl (j_getR 7 4 f_RX7_24 dX7_putAway_18 h (fun b2 h => j_iload_n 1 dX7_putAway_21 rfl (j_iconst dX7_putAway_22 (j_iadd dX7_putAway_23 (j_iald dX7_putAway_24 h (fun h => j_iast dX7_putAway_25 h (fun h => j_aload_n 0 dX7_putAway_26 rfl (j_getR 7 5 f_RX7_27 dX7_putAway_27 h (fun b3 h => j_iload_n 1 dX7_putAway_30 rfl (j_aload_n 0 dX7_putAway_31 rfl (j_getR 7 5 f_RX7_27 dX7_putAway_32 h (fun b4 h => j_iload_n 1 dX7_putAway_35 rfl (j_iconst dX7_putAway_36 (j_iadd dX7_putAway_37 (j_iald dX7_putAway_38 h (fun h => j_iast dX7_putAway_39 h (fun h => j_bind h (fun S5 h => j_aload_n 0 dX7_putAway_40 rfl (j_getR 7 6 f_RX7_30 dX7_putAway_41 h (fun b6 h => j_iload_n 1 dX7_putAway_44 rfl (j_aload_n 0 dX7_putAway_45 rfl (j_getR 7 6 f_RX7_30 dX7_putAway_46 h (fun b7 h => j_iload_n 1 dX7_putAway_49 rfl (j_iconst dX7_putAway_50 (j_iadd dX7_putAway_51 (j_iald dX7_putAway_52 h (fun h => j_iast dX7_putAway_53 h (fun h => j_iinc 1 (lv2 := [(2, vI (x2 + 1)), (0, vA x0)]) dX7_putAway_54 rfl (by decide) rfl (j_goto (tgt := 2) dX7_putAway_57 (by decide) (j_sub [1, 0] rfl (ih _ _ _ h))))))))))))))))))))))))))))))))))))))))
def VX7_putAway_0 (d : Nat) (Q : Out → MS → Prop) (x0 : Nat) (x1 : Int) (S : MS) : Prop :=
  ∃ m, VX7_putAway_2 d Q m x0 x1 S
theorem JX7_putAway_0 {d : Nat} {S0 : MS} {Q : Out → MS → Prop} (x0 : Nat) (x1 : Int) (S : MS) (h : VX7_putAway_0 d Q x0 x1 S) : Jw FinM RX7 cX7_putAway 3 none [] yX7_putAway (d + 1) S0 S 0 [(0, vA x0), (1, vI x1)] [] Q :=
  j_iload_n 1 dX7_putAway_0 rfl (j_istore_n (lv2 := [(2, vI x1), (0, vA x0), (1, vI x1)]) dX7_putAway_1 (by decide) rfl (Exists.elim h (fun m h => j_sub [1, 0] rfl (JX7_putAway_2 m _ _ _ h))))
theorem MX7_putAway {d : Nat} {x0 : Nat} {x1 : Int} {S : MS} {Q : Out → MS → Prop} (h : VX7_putAway_0 d Q x0 x1 S) : Mw hX7_putAway yX7_putAway (d + 1) [vA x0, vI x1] S Q := Mw.ofJ (by decide) (Nat.le_of_ble_eq_true rfl) (JX7_putAway_0 _ _ S h)
theorem dX7_kindOfNote_0 : decode cX7_kindOfNote 0 = .ok (.aload_n 0, 1) := by decide +kernel
theorem dX7_kindOfNote_1 : decode cX7_kindOfNote 1 = .ok (.getfield 15, 3) := by decide +kernel
theorem dX7_kindOfNote_4 : decode cX7_kindOfNote 4 = .ok (.aload_n 0, 1) := by decide +kernel
theorem dX7_kindOfNote_5 : decode cX7_kindOfNote 5 = .ok (.getfield 24, 3) := by decide +kernel
theorem dX7_kindOfNote_8 : decode cX7_kindOfNote 8 = .ok (.iload_n 1, 1) := by decide +kernel
theorem dX7_kindOfNote_9 : decode cX7_kindOfNote 9 = .ok (.iaload, 1) := by decide +kernel
theorem dX7_kindOfNote_10 : decode cX7_kindOfNote 10 = .ok (.iaload, 1) := by decide +kernel
theorem dX7_kindOfNote_11 : decode cX7_kindOfNote 11 = .ok (.ireturn, 1) := by decide +kernel
def VX7_kindOfNote_0 (d : Nat) (Q : Out → MS → Prop) (x0 : Nat) (x1 : Int) (S : MS) : Prop :=
  S.K x0 = 7 ∧ ∃ b1, S.R x0 1 = some b1 ∧ (S.K x0 = 7 ∧ ∃ b2, S.R x0 4 = some b2 ∧ ((S.K b2 = 13 ∧ 0 ≤ x1 ∧ x1 < S.N b2) ∧ ((S.K b1 = 13 ∧ 0 ≤ (S.I b2 (x1).toNat) ∧ (S.I b2 (x1).toNat) < S.N b1) ∧ (Q (.inl (some (vI (S.I b1 ((S.I b2 (x1).toNat)).toNat)))) S))))
theorem JX7_kindOfNote_0 {d : Nat} {S0 : MS} {Q : Out → MS → Prop} (x0 : Nat) (x1 : Int) (S : MS) (h : VX7_kindOfNote_0 d Q x0 x1 S) : Jw FinM RX7 cX7_kindOfNote 2 (some .int) [] yX7_kindOfNote (d + 1) S0 S 0 [(0, vA x0), (1, vI x1)] [] Q :=
  j_aload_n 0 dX7_kindOfNote_0 rfl (j_getR 7 1 f_RX7_15 dX7_kindOfNote_1 h (fun b1 h => j_aload_n 0 dX7_kindOfNote_4 rfl (j_getR 7 4 f_RX7_24 dX7_kindOfNote_5 h (fun b2 h => j_iload_n 1 dX7_kindOfNote_8 rfl (j_iald dX7_kindOfNote_9 h (fun h => j_iald dX7_kindOfNote_10 h (fun h => j_iret rfl dX7_kindOfNote_11 h)))))))
theorem MX7_kindOfNote {d : Nat} {x0 : Nat} {x1 : Int} {S : MS} {Q : Out → MS → Prop} (h : VX7_kindOfNote_0 d Q x0 x1 S) : Mw hX7_kindOfNote yX7_kindOfNote (d + 1) [vA x0, vI x1] S Q := Mw.ofJ (by decide) (Nat.le_of_ble_eq_true rfl) (JX7_kindOfNote_0 _ _ S h)
theorem dX7_outweighs_0 : decode cX7_outweighs 0 = .ok (.aload_n 0, 1) := by decide +kernel
theorem dX7_outweighs_1 : decode cX7_outweighs 1 = .ok (.getfield 9, 3) := by decide +kernel
theorem dX7_outweighs_4 : decode cX7_outweighs 4 = .ok (.iload_n 1, 1) := by decide +kernel
theorem dX7_outweighs_5 : decode cX7_outweighs 5 = .ok (.iaload, 1) := by decide +kernel
theorem dX7_outweighs_6 : decode cX7_outweighs 6 = .ok (.aload_n 0, 1) := by decide +kernel
theorem dX7_outweighs_7 : decode cX7_outweighs 7 = .ok (.getfield 9, 3) := by decide +kernel
theorem dX7_outweighs_10 : decode cX7_outweighs 10 = .ok (.iload_n 2, 1) := by decide +kernel
theorem dX7_outweighs_11 : decode cX7_outweighs 11 = .ok (.iaload, 1) := by decide +kernel
theorem dX7_outweighs_12 : decode cX7_outweighs 12 = .ok (.if_icmp .gt 23, 3) := by decide +kernel
theorem dX7_outweighs_15 : decode cX7_outweighs 15 = .ok (.aload_n 0, 1) := by decide +kernel
theorem dX7_outweighs_16 : decode cX7_outweighs 16 = .ok (.getfield 9, 3) := by decide +kernel
theorem dX7_outweighs_19 : decode cX7_outweighs 19 = .ok (.iload_n 1, 1) := by decide +kernel
theorem dX7_outweighs_20 : decode cX7_outweighs 20 = .ok (.iaload, 1) := by decide +kernel
theorem dX7_outweighs_21 : decode cX7_outweighs 21 = .ok (.aload_n 0, 1) := by decide +kernel
theorem dX7_outweighs_22 : decode cX7_outweighs 22 = .ok (.getfield 9, 3) := by decide +kernel
theorem dX7_outweighs_25 : decode cX7_outweighs 25 = .ok (.iload_n 2, 1) := by decide +kernel
theorem dX7_outweighs_26 : decode cX7_outweighs 26 = .ok (.iaload, 1) := by decide +kernel
theorem dX7_outweighs_27 : decode cX7_outweighs 27 = .ok (.if_icmp .ne 12, 3) := by decide +kernel
theorem dX7_outweighs_30 : decode cX7_outweighs 30 = .ok (.iload_n 1, 1) := by decide +kernel
theorem dX7_outweighs_31 : decode cX7_outweighs 31 = .ok (.iload_n 2, 1) := by decide +kernel
theorem dX7_outweighs_32 : decode cX7_outweighs 32 = .ok (.if_icmp .le 7, 3) := by decide +kernel
theorem dX7_outweighs_35 : decode cX7_outweighs 35 = .ok (.iconst 1, 1) := by decide +kernel
theorem dX7_outweighs_36 : decode cX7_outweighs 36 = .ok (.goto 4, 3) := by decide +kernel
theorem dX7_outweighs_39 : decode cX7_outweighs 39 = .ok (.iconst 0, 1) := by decide +kernel
theorem dX7_outweighs_40 : decode cX7_outweighs 40 = .ok (.ireturn, 1) := by decide +kernel
def VX7_outweighs_35 (d : Nat) (Q : Out → MS → Prop) (S : MS) : Prop :=
  B01 1 ∧ Q (.inl (some (vI 1))) S
theorem JX7_outweighs_35 {d : Nat} {S0 : MS} {Q : Out → MS → Prop} (S : MS) (h : VX7_outweighs_35 d Q S) : Jw FinM RX7 cX7_outweighs 3 (some .boolean) [] yX7_outweighs (d + 1) S0 S 35 [] [] Q :=
  j_iconst dX7_outweighs_35 (j_goto (tgt := 40) dX7_outweighs_36 (by decide) (j_zret rfl dX7_outweighs_40 h))
def VX7_outweighs_0 (d : Nat) (Q : Out → MS → Prop) (x0 : Nat) (x1 : Int) (x2 : Int) (S : MS) : Prop :=
  S.K x0 = 7 ∧ ∃ b1, S.R x0 0 = some b1 ∧ ((S.K b1 = 13 ∧ 0 ≤ x1 ∧ x1 < S.N b1) ∧ (S.K x0 = 7 ∧ ∃ b2, S.R x0 0 = some b2 ∧ ((S.K b2 = 13 ∧ 0 ≤ x2 ∧ x2 < S.N b2) ∧ ((R32 (S.I b1 (x1).toNat) ∧ R32 (S.I b2 (x2).toNat)) ∧ (((S.I b2 (x2).toNat) < (S.I b1 (x1).toNat)) → VX7_outweighs_35 d Q S) ∧ (¬ ((S.I b2 (x2).toNat) < (S.I b1 (x1).toNat)) → S.K x0 = 7 ∧ ∃ b3, S.R x0 0 = some b3 ∧ ((S.K b3 = 13 ∧ 0 ≤ x1 ∧ x1 < S.N b3) ∧ (S.K x0 = 7 ∧ ∃ b4, S.R x0 0 = some b4 ∧ ((S.K b4 = 13 ∧ 0 ≤ x2 ∧ x2 < S.N b4) ∧ ((R32 (S.I b3 (x1).toNat) ∧ R32 (S.I b4 (x2).toNat)) ∧ (¬ ((S.I b3 (x1).toNat) = (S.I b4 (x2).toNat)) → B01 0 ∧ Q (.inl (some (vI 0))) S) ∧ (((S.I b3 (x1).toNat) = (S.I b4 (x2).toNat)) → (R32 x1 ∧ R32 x2) ∧ ((x1 ≤ x2) → B01 0 ∧ Q (.inl (some (vI 0))) S) ∧ (¬ (x1 ≤ x2) → VX7_outweighs_35 d Q S)))))))))))
theorem JX7_outweighs_0 {d : Nat} {S0 : MS} {Q : Out → MS → Prop} (x0 : Nat) (x1 : Int) (x2 : Int) (S : MS) (h : VX7_outweighs_0 d Q x0 x1 x2 S) : Jw FinM RX7 cX7_outweighs 3 (some .boolean) [] yX7_outweighs (d + 1) S0 S 0 [(0, vA x0), (1, vI x1), (2, vI x2)] [] Q :=
  j_aload_n 0 dX7_outweighs_0 rfl (j_getR 7 0 f_RX7_9 dX7_outweighs_1 h (fun b1 h => j_iload_n 1 dX7_outweighs_4 rfl (j_iald dX7_outweighs_5 h (fun h => j_aload_n 0 dX7_outweighs_6 rfl (j_getR 7 0 f_RX7_9 dX7_outweighs_7 h (fun b2 h => j_iload_n 2 dX7_outweighs_10 rfl (j_iald dX7_outweighs_11 h (fun h => j_icmp_gt (tgt := 35) dX7_outweighs_12 (by decide) h (fun h => j_sub [] rfl (JX7_outweighs_35 _ h)) (fun h => j_aload_n 0 dX7_outweighs_15 rfl (j_getR 7 0 f_RX7_9 dX7_outweighs_16 h (fun b3 h => j_iload_n 1 dX7_outweighs_19 rfl (j_iald dX7_outweighs_20 h (fun h => j_aload_n 0 dX7_outweighs_21 rfl (j_getR 7 0 f_RX7_9 dX7_outweighs_22 h (fun b4 h => j_iload_n 2 dX7_outweighs_25 rfl (j_iald dX7_outweighs_26 h (fun h => j_icmp_ne (tgt := 39) dX7_outweighs_27 (by decide) h (fun h => j_iconst dX7_outweighs_39 (j_zret rfl dX7_outweighs_40 h)) (fun h => j_iload_n 1 dX7_outweighs_30 rfl (j_iload_n 2 dX7_outweighs_31 rfl (j_icmp_le (tgt := 39) dX7_outweighs_32 (by decide) h (fun h => j_iconst dX7_outweighs_39 (j_zret rfl dX7_outweighs_40 h)) (fun h => j_sub [] rfl (JX7_outweighs_35 _ h))))))))))))))))))))))
theorem MX7_outweighs {d : Nat} {x0 : Nat} {x1 : Int} {x2 : Int} {S : MS} {Q : Out → MS → Prop} (h : VX7_outweighs_0 d Q x0 x1 x2 S) : Mw hX7_outweighs yX7_outweighs (d + 1) [vA x0, vI x1, vI x2] S Q := Mw.ofJ (by decide) (Nat.le_of_ble_eq_true rfl) (JX7_outweighs_0 _ _ _ S h)
theorem dX7_heavierIn_0 : decode cX7_heavierIn 0 = .ok (.iconst 0, 1) := by decide +kernel
theorem dX7_heavierIn_1 : decode cX7_heavierIn 1 = .ok (.istore_n 3, 1) := by decide +kernel
theorem dX7_heavierIn_2 : decode cX7_heavierIn 2 = .ok (.iconst 0, 1) := by decide +kernel
theorem dX7_heavierIn_3 : decode cX7_heavierIn 3 = .ok (.istore 4, 2) := by decide +kernel
theorem dX7_heavierIn_5 : decode cX7_heavierIn 5 = .ok (.iload 4, 2) := by decide +kernel
theorem dX7_heavierIn_7 : decode cX7_heavierIn 7 = .ok (.aload_n 0, 1) := by decide +kernel
theorem dX7_heavierIn_8 : decode cX7_heavierIn 8 = .ok (.getfield 33, 3) := by decide +kernel
theorem dX7_heavierIn_11 : decode cX7_heavierIn 11 = .ok (.if_icmp .ge 36, 3) := by decide +kernel
theorem dX7_heavierIn_14 : decode cX7_heavierIn 14 = .ok (.iload_n 3, 1) := by decide +kernel
theorem dX7_heavierIn_15 : decode cX7_heavierIn 15 = .ok (.iload_n 1, 1) := by decide +kernel
theorem dX7_heavierIn_16 : decode cX7_heavierIn 16 = .ok (.iload 4, 2) := by decide +kernel
theorem dX7_heavierIn_18 : decode cX7_heavierIn 18 = .ok (.invokestatic 58, 3) := by decide +kernel
theorem dX7_heavierIn_21 : decode cX7_heavierIn 21 = .ok (.ifCond .eq 17, 3) := by decide +kernel
theorem dX7_heavierIn_24 : decode cX7_heavierIn 24 = .ok (.aload_n 0, 1) := by decide +kernel
theorem dX7_heavierIn_25 : decode cX7_heavierIn 25 = .ok (.iload 4, 2) := by decide +kernel
theorem dX7_heavierIn_27 : decode cX7_heavierIn 27 = .ok (.iload_n 2, 1) := by decide +kernel
theorem dX7_heavierIn_28 : decode cX7_heavierIn 28 = .ok (.invokevirtual 62, 3) := by decide +kernel
theorem dX7_heavierIn_31 : decode cX7_heavierIn 31 = .ok (.ifCond .eq 7, 3) := by decide +kernel
theorem dX7_heavierIn_34 : decode cX7_heavierIn 34 = .ok (.iconst 1, 1) := by decide +kernel
theorem dX7_heavierIn_35 : decode cX7_heavierIn 35 = .ok (.goto 4, 3) := by decide +kernel
theorem dX7_heavierIn_38 : decode cX7_heavierIn 38 = .ok (.iconst 0, 1) := by decide +kernel
theorem dX7_heavierIn_39 : decode cX7_heavierIn 39 = .ok (.iadd, 1) := by decide +kernel
theorem dX7_heavierIn_40 : decode cX7_heavierIn 40 = .ok (.istore_n 3, 1) := by decide +kernel
theorem dX7_heavierIn_41 : decode cX7_heavierIn 41 = .ok (.iinc 4 1, 3) := by decide +kernel
theorem dX7_heavierIn_44 : decode cX7_heavierIn 44 = .ok (.goto (-39), 3) := by decide +kernel
theorem dX7_heavierIn_47 : decode cX7_heavierIn 47 = .ok (.iload_n 3, 1) := by decide +kernel
theorem dX7_heavierIn_48 : decode cX7_heavierIn 48 = .ok (.ireturn, 1) := by decide +kernel
def VX7_heavierIn_39 (d : Nat) (c5 : Nat → Int → Int → Int → Int → MS → Prop) (Q : Out → MS → Prop) (x0 : Nat) (x1 : Int) (x2 : Int) (x4 : Int) (t0 : Int) (t1 : Int) (S : MS) : Prop :=
  c5 x0 x1 x2 (t1 + t0) (x4 + 1) S
theorem JX7_heavierIn_39 {d : Nat} {c5 : Nat → Int → Int → Int → Int → MS → Prop} {S0 : MS} {Q : Out → MS → Prop} (hc5 : ∀ (x0 : Nat) (x1 : Int) (x2 : Int) (x3 : Int) (x4 : Int) (S : MS), c5 x0 x1 x2 x3 x4 S → Jw FinM RX7 cX7_heavierIn 5 (some .int) [] yX7_heavierIn (d + 1) S0 S 5 [(0, vA x0), (1, vI x1), (2, vI x2), (3, vI x3), (4, vI x4)] [] Q) (x0 : Nat) (x1 : Int) (x2 : Int) (x4 : Int) (t0 : Int) (t1 : Int) (S : MS) (h : VX7_heavierIn_39 d c5 Q x0 x1 x2 x4 t0 t1 S) : Jw FinM RX7 cX7_heavierIn 5 (some .int) [] yX7_heavierIn (d + 1) S0 S 39 [(0, vA x0), (1, vI x1), (2, vI x2), (4, vI x4)] [vI t0, vI t1] Q :=
  j_iadd dX7_heavierIn_39 (j_istore_n (lv2 := [(3, vI (t1 + t0)), (0, vA x0), (1, vI x1), (2, vI x2), (4, vI x4)]) dX7_heavierIn_40 (by decide) rfl (j_iinc 4 (lv2 := [(4, vI (x4 + 1)), (3, vI (t1 + t0)), (0, vA x0), (1, vI x1), (2, vI x2)]) dX7_heavierIn_41 rfl (by decide) rfl (j_goto (tgt := 5) dX7_heavierIn_44 (by decide) (j_sub [2, 3, 4, 1, 0] rfl (hc5 _ _ _ _ _ _ h)))))
def VX7_heavierIn_38 (d : Nat) (c5 : Nat → Int → Int → Int → Int → MS → Prop) (Q : Out → MS → Prop) (x0 : Nat) (x1 : Int) (x2 : Int) (x4 : Int) (t0 : Int) (S : MS) : Prop :=
  VX7_heavierIn_39 d c5 Q x0 x1 x2 x4 0 t0 S
theorem JX7_heavierIn_38 {d : Nat} {c5 : Nat → Int → Int → Int → Int → MS → Prop} {S0 : MS} {Q : Out → MS → Prop} (hc5 : ∀ (x0 : Nat) (x1 : Int) (x2 : Int) (x3 : Int) (x4 : Int) (S : MS), c5 x0 x1 x2 x3 x4 S → Jw FinM RX7 cX7_heavierIn 5 (some .int) [] yX7_heavierIn (d + 1) S0 S 5 [(0, vA x0), (1, vI x1), (2, vI x2), (3, vI x3), (4, vI x4)] [] Q) (x0 : Nat) (x1 : Int) (x2 : Int) (x4 : Int) (t0 : Int) (S : MS) (h : VX7_heavierIn_38 d c5 Q x0 x1 x2 x4 t0 S) : Jw FinM RX7 cX7_heavierIn 5 (some .int) [] yX7_heavierIn (d + 1) S0 S 38 [(0, vA x0), (1, vI x1), (2, vI x2), (4, vI x4)] [vI t0] Q :=
  j_iconst dX7_heavierIn_38 (JX7_heavierIn_39 hc5 _ _ _ _ _ _ _ h)
def VX7_heavierIn_5 (d : Nat) (Q : Out → MS → Prop) : Nat → Nat → Int → Int → Int → Int → MS → Prop
  | 0, _, _, _, _, _, _ => False
  | n + 1, x0, x1, x2, x3, x4, S => S.K x0 = 7 ∧ ((R32 x4 ∧ R32 (S.I x0 7)) ∧ (((S.I x0 7) ≤ x4) → Q (.inl (some (vI x3))) S) ∧ (¬ ((S.I x0 7) ≤ x4) → Mw hX10_holds yX10_holds d [vI x1, vI x4] S (oI (fun r1 S1 => R32 r1 ∧ ((r1 = 0) → VX7_heavierIn_38 d (VX7_heavierIn_5 d Q n) Q x0 x1 x2 x4 x3 S1) ∧ (¬ (r1 = 0) → S1.K x0 = 7 ∧ Mw hX7_outweighs yX7_outweighs d [vA x0, vI x4, vI x2] S1 (oI (fun r2 S2 => R32 r2 ∧ ((r2 = 0) → VX7_heavierIn_38 d (VX7_heavierIn_5 d Q n) Q x0 x1 x2 x4 x3 S2) ∧ (¬ (r2 = 0) → VX7_heavierIn_39 d (VX7_heavierIn_5 d Q n) Q x0 x1 x2 x4 1 x3 S2))))))))
theorem JX7_heavierIn_5 {d : Nat} {S0 : MS} {Q : Out → MS → Prop} : ∀ (n : Nat) (x0 : Nat) (x1 : Int) (x2 : Int) (x3 : Int) (x4 : Int) (S : MS), VX7_heavierIn_5 d Q n x0 x1 x2 x3 x4 S → Jw FinM RX7 cX7_heavierIn 5 (some .int) [] yX7_heavierIn (d + 1) S0 S 5 [(0, vA x0), (1, vI x1), (2, vI x2), (3, vI x3), (4, vI x4)] [] Q := by
  intro n
  induction n with
  | zero => intro x0 x1 x2 x3 x4 S h; exact h.elim
  | succ n ih =>
    intro x0 x1 x2 x3 x4 S h
    exact j_iload 4 dX7_heavierIn_5 rfl (j_aload_n 0 dX7_heavierIn_7 rfl (j_getI 7 7 f_RX7_33 dX7_heavierIn_8 h (fun h => j_icmp_ge (tgt := 47) dX7_heavierIn_11 (by decide) h (fun h => j_iload_n 3 dX7_heavierIn_47 rfl (j_iret rfl dX7_heavierIn_48 h)) (fun h => j_iload_n 3 dX7_heavierIn_14 rfl (j_iload_n 1 dX7_heavierIn_15 rfl (j_iload 4 dX7_heavierIn_16 rfl (j_callSN (rest := [vI x3]) [vI x1, vI x4] k_RX7_58 w_2_192 rfl rfl (Nat.le_of_ble_eq_true rfl) dX7_heavierIn_18 h (kI (fun r1 S1 h => j_if_eq (tgt := 38) dX7_heavierIn_21 (by decide) h (fun h => j_sub [0, 1, 2, 4] rfl (JX7_heavierIn_38 ih _ _ _ _ _ _ h)) (fun h => j_aload_n 0 dX7_heavierIn_24 rfl (j_iload 4 dX7_heavierIn_25 rfl (j_iload_n 2 dX7_heavierIn_27 rfl (j_callV (rest := [vI x3]) 7 [vI x4, vI x2] k_RX7_62 ⟨w_4_22, w_4_23⟩ ⟨_, _, rfl⟩ (by decide) rfl rfl (Nat.le_of_ble_eq_true rfl) dX7_heavierIn_28 h (kI (fun r2 S2 h => j_if_eq (tgt := 38) dX7_heavierIn_31 (by decide) h (fun h => j_sub [0, 1, 2, 4] rfl (JX7_heavierIn_38 ih _ _ _ _ _ _ h)) (fun h => j_iconst dX7_heavierIn_34 (j_goto (tgt := 39) dX7_heavierIn_35 (by decide) (j_sub [0, 1, 2, 4] rfl (JX7_heavierIn_39 ih _ _ _ _ _ _ _ h)))))) (fun _ _ h => h.elim))))))))))))))
def VX7_heavierIn_0 (d : Nat) (Q : Out → MS → Prop) (x0 : Nat) (x1 : Int) (x2 : Int) (S : MS) : Prop :=
  ∃ m, VX7_heavierIn_5 d Q m x0 x1 x2 0 0 S
theorem JX7_heavierIn_0 {d : Nat} {S0 : MS} {Q : Out → MS → Prop} (x0 : Nat) (x1 : Int) (x2 : Int) (S : MS) (h : VX7_heavierIn_0 d Q x0 x1 x2 S) : Jw FinM RX7 cX7_heavierIn 5 (some .int) [] yX7_heavierIn (d + 1) S0 S 0 [(0, vA x0), (1, vI x1), (2, vI x2)] [] Q :=
  j_iconst dX7_heavierIn_0 (j_istore_n (lv2 := [(3, vI 0), (0, vA x0), (1, vI x1), (2, vI x2)]) dX7_heavierIn_1 (by decide) rfl (j_iconst dX7_heavierIn_2 (j_istore (lv2 := [(4, vI 0), (3, vI 0), (0, vA x0), (1, vI x1), (2, vI x2)]) dX7_heavierIn_3 (by decide) rfl (Exists.elim h (fun m h => j_sub [2, 3, 4, 1, 0] rfl (JX7_heavierIn_5 m _ _ _ _ _ _ h))))))
theorem MX7_heavierIn {d : Nat} {x0 : Nat} {x1 : Int} {x2 : Int} {S : MS} {Q : Out → MS → Prop} (h : VX7_heavierIn_0 d Q x0 x1 x2 S) : Mw hX7_heavierIn yX7_heavierIn (d + 1) [vA x0, vI x1, vI x2] S Q := Mw.ofJ (by decide) (Nat.le_of_ble_eq_true rfl) (JX7_heavierIn_0 _ _ _ S h)
theorem dX7_riser_0 : decode cX7_riser 0 = .ok (.iconst 0, 1) := by decide +kernel
theorem dX7_riser_1 : decode cX7_riser 1 = .ok (.istore_n 3, 1) := by decide +kernel
theorem dX7_riser_2 : decode cX7_riser 2 = .ok (.iconst 0, 1) := by decide +kernel
theorem dX7_riser_3 : decode cX7_riser 3 = .ok (.istore 4, 2) := by decide +kernel
theorem dX7_riser_5 : decode cX7_riser 5 = .ok (.iload 4, 2) := by decide +kernel
theorem dX7_riser_7 : decode cX7_riser 7 = .ok (.aload_n 0, 1) := by decide +kernel
theorem dX7_riser_8 : decode cX7_riser 8 = .ok (.getfield 33, 3) := by decide +kernel
theorem dX7_riser_11 : decode cX7_riser 11 = .ok (.if_icmp .ge 35, 3) := by decide +kernel
theorem dX7_riser_14 : decode cX7_riser 14 = .ok (.iload_n 2, 1) := by decide +kernel
theorem dX7_riser_15 : decode cX7_riser 15 = .ok (.iload 4, 2) := by decide +kernel
theorem dX7_riser_17 : decode cX7_riser 17 = .ok (.invokestatic 58, 3) := by decide +kernel
theorem dX7_riser_20 : decode cX7_riser 20 = .ok (.ifCond .eq 20, 3) := by decide +kernel
theorem dX7_riser_23 : decode cX7_riser 23 = .ok (.aload_n 0, 1) := by decide +kernel
theorem dX7_riser_24 : decode cX7_riser 24 = .ok (.iload_n 2, 1) := by decide +kernel
theorem dX7_riser_25 : decode cX7_riser 25 = .ok (.iload 4, 2) := by decide +kernel
theorem dX7_riser_27 : decode cX7_riser 27 = .ok (.invokevirtual 65, 3) := by decide +kernel
theorem dX7_riser_30 : decode cX7_riser 30 = .ok (.iload_n 1, 1) := by decide +kernel
theorem dX7_riser_31 : decode cX7_riser 31 = .ok (.invokestatic 69, 3) := by decide +kernel
theorem dX7_riser_34 : decode cX7_riser 34 = .ok (.if_icmp .ne 6, 3) := by decide +kernel
theorem dX7_riser_37 : decode cX7_riser 37 = .ok (.iload 4, 2) := by decide +kernel
theorem dX7_riser_39 : decode cX7_riser 39 = .ok (.istore_n 3, 1) := by decide +kernel
theorem dX7_riser_40 : decode cX7_riser 40 = .ok (.iinc 4 1, 3) := by decide +kernel
theorem dX7_riser_43 : decode cX7_riser 43 = .ok (.goto (-38), 3) := by decide +kernel
theorem dX7_riser_46 : decode cX7_riser 46 = .ok (.iload_n 3, 1) := by decide +kernel
theorem dX7_riser_47 : decode cX7_riser 47 = .ok (.ireturn, 1) := by decide +kernel
def VX7_riser_40 (d : Nat) (c5 : Nat → Int → Int → Int → Int → MS → Prop) (Q : Out → MS → Prop) (x0 : Nat) (x1 : Int) (x2 : Int) (x3 : Int) (x4 : Int) (S : MS) : Prop :=
  c5 x0 x1 x2 x3 (x4 + 1) S
theorem JX7_riser_40 {d : Nat} {c5 : Nat → Int → Int → Int → Int → MS → Prop} {S0 : MS} {Q : Out → MS → Prop} (hc5 : ∀ (x0 : Nat) (x1 : Int) (x2 : Int) (x3 : Int) (x4 : Int) (S : MS), c5 x0 x1 x2 x3 x4 S → Jw FinM RX7 cX7_riser 5 (some .int) [] yX7_riser (d + 1) S0 S 5 [(0, vA x0), (1, vI x1), (2, vI x2), (3, vI x3), (4, vI x4)] [] Q) (x0 : Nat) (x1 : Int) (x2 : Int) (x3 : Int) (x4 : Int) (S : MS) (h : VX7_riser_40 d c5 Q x0 x1 x2 x3 x4 S) : Jw FinM RX7 cX7_riser 5 (some .int) [] yX7_riser (d + 1) S0 S 40 [(0, vA x0), (1, vI x1), (2, vI x2), (3, vI x3), (4, vI x4)] [] Q :=
  j_iinc 4 (lv2 := [(4, vI (x4 + 1)), (0, vA x0), (1, vI x1), (2, vI x2), (3, vI x3)]) dX7_riser_40 rfl (by decide) rfl (j_goto (tgt := 5) dX7_riser_43 (by decide) (j_sub [1, 2, 3, 4, 0] rfl (hc5 _ _ _ _ _ _ h)))
def VX7_riser_5 (d : Nat) (Q : Out → MS → Prop) : Nat → Nat → Int → Int → Int → Int → MS → Prop
  | 0, _, _, _, _, _, _ => False
  | n + 1, x0, x1, x2, x3, x4, S => S.K x0 = 7 ∧ ((R32 x4 ∧ R32 (S.I x0 7)) ∧ (((S.I x0 7) ≤ x4) → Q (.inl (some (vI x3))) S) ∧ (¬ ((S.I x0 7) ≤ x4) → Mw hX10_holds yX10_holds d [vI x2, vI x4] S (oI (fun r1 S1 => R32 r1 ∧ ((r1 = 0) → VX7_riser_40 d (VX7_riser_5 d Q n) Q x0 x1 x2 x3 x4 S1) ∧ (¬ (r1 = 0) → S1.K x0 = 7 ∧ Mw hX7_heavierIn yX7_heavierIn d [vA x0, vI x2, vI x4] S1 (oI (fun r2 S2 => Mw hX10_aboveRiser yX10_aboveRiser d [vI x1] S2 (oI (fun r3 S3 => (R32 r2 ∧ R32 r3) ∧ (¬ (r2 = r3) → VX7_riser_40 d (VX7_riser_5 d Q n) Q x0 x1 x2 x3 x4 S3) ∧ ((r2 = r3) → VX7_riser_40 d (VX7_riser_5 d Q n) Q x0 x1 x2 x4 x4 S3))))))))))
theorem JX7_riser_5 {d : Nat} {S0 : MS} {Q : Out → MS → Prop} : ∀ (n : Nat) (x0 : Nat) (x1 : Int) (x2 : Int) (x3 : Int) (x4 : Int) (S : MS), VX7_riser_5 d Q n x0 x1 x2 x3 x4 S → Jw FinM RX7 cX7_riser 5 (some .int) [] yX7_riser (d + 1) S0 S 5 [(0, vA x0), (1, vI x1), (2, vI x2), (3, vI x3), (4, vI x4)] [] Q := by
  intro n
  induction n with
  | zero => intro x0 x1 x2 x3 x4 S h; exact h.elim
  | succ n ih =>
    intro x0 x1 x2 x3 x4 S h
    exact j_iload 4 dX7_riser_5 rfl (j_aload_n 0 dX7_riser_7 rfl (j_getI 7 7 f_RX7_33 dX7_riser_8 h (fun h => j_icmp_ge (tgt := 46) dX7_riser_11 (by decide) h (fun h => j_iload_n 3 dX7_riser_46 rfl (j_iret rfl dX7_riser_47 h)) (fun h => j_iload_n 2 dX7_riser_14 rfl (j_iload 4 dX7_riser_15 rfl (j_callSN (rest := []) [vI x2, vI x4] k_RX7_58 w_2_192 rfl rfl (Nat.le_of_ble_eq_true rfl) dX7_riser_17 h (kI (fun r1 S1 h => j_if_eq (tgt := 40) dX7_riser_20 (by decide) h (fun h => JX7_riser_40 ih _ _ _ _ _ _ h) (fun h => j_aload_n 0 dX7_riser_23 rfl (j_iload_n 2 dX7_riser_24 rfl (j_iload 4 dX7_riser_25 rfl (j_callV (rest := []) 7 [vI x2, vI x4] k_RX7_65 ⟨w_4_18, w_4_19⟩ ⟨_, _, rfl⟩ (by decide) rfl rfl (Nat.le_of_ble_eq_true rfl) dX7_riser_27 h (kI (fun r2 S2 h => j_iload_n 1 dX7_riser_30 rfl (j_callSN (rest := [vI r2]) [vI x1] k_RX7_69 w_2_203 rfl rfl (Nat.le_of_ble_eq_true rfl) dX7_riser_31 h (kI (fun r3 S3 h => j_icmp_ne (tgt := 40) dX7_riser_34 (by decide) h (fun h => JX7_riser_40 ih _ _ _ _ _ _ h) (fun h => j_iload 4 dX7_riser_37 rfl (j_istore_n (lv2 := [(3, vI x4), (0, vA x0), (1, vI x1), (2, vI x2), (4, vI x4)]) dX7_riser_39 (by decide) rfl (j_sub [1, 2, 3, 0, 4] rfl (JX7_riser_40 ih _ _ _ _ _ _ h))))))))) (fun _ _ h => h.elim)))))))))))))
def VX7_riser_0 (d : Nat) (Q : Out → MS → Prop) (x0 : Nat) (x1 : Int) (x2 : Int) (S : MS) : Prop :=
  ∃ m, VX7_riser_5 d Q m x0 x1 x2 0 0 S
theorem JX7_riser_0 {d : Nat} {S0 : MS} {Q : Out → MS → Prop} (x0 : Nat) (x1 : Int) (x2 : Int) (S : MS) (h : VX7_riser_0 d Q x0 x1 x2 S) : Jw FinM RX7 cX7_riser 5 (some .int) [] yX7_riser (d + 1) S0 S 0 [(0, vA x0), (1, vI x1), (2, vI x2)] [] Q :=
  j_iconst dX7_riser_0 (j_istore_n (lv2 := [(3, vI 0), (0, vA x0), (1, vI x1), (2, vI x2)]) dX7_riser_1 (by decide) rfl (j_iconst dX7_riser_2 (j_istore (lv2 := [(4, vI 0), (3, vI 0), (0, vA x0), (1, vI x1), (2, vI x2)]) dX7_riser_3 (by decide) rfl (Exists.elim h (fun m h => j_sub [2, 3, 4, 1, 0] rfl (JX7_riser_5 m _ _ _ _ _ _ h))))))
theorem MX7_riser {d : Nat} {x0 : Nat} {x1 : Int} {x2 : Int} {S : MS} {Q : Out → MS → Prop} (h : VX7_riser_0 d Q x0 x1 x2 S) : Mw hX7_riser yX7_riser (d + 1) [vA x0, vI x1, vI x2] S Q := Mw.ofJ (by decide) (Nat.le_of_ble_eq_true rfl) (JX7_riser_0 _ _ _ S h)
theorem dX7_trueRow_0 : decode cX7_trueRow 0 = .ok (.iconst 1, 1) := by decide +kernel
theorem dX7_trueRow_1 : decode cX7_trueRow 1 = .ok (.aload_n 0, 1) := by decide +kernel
theorem dX7_trueRow_2 : decode cX7_trueRow 2 = .ok (.getfield 33, 3) := by decide +kernel
theorem dX7_trueRow_5 : decode cX7_trueRow 5 = .ok (.ishl, 1) := by decide +kernel
theorem dX7_trueRow_6 : decode cX7_trueRow 6 = .ok (.iconst 1, 1) := by decide +kernel
theorem dX7_trueRow_7 : decode cX7_trueRow 7 = .ok (.isub, 1) := by decide +kernel
theorem dX7_trueRow_8 : decode cX7_trueRow 8 = .ok (.istore_n 1, 1) := by decide +kernel
theorem dX7_trueRow_9 : decode cX7_trueRow 9 = .ok (.iconst 0, 1) := by decide +kernel
theorem dX7_trueRow_10 : decode cX7_trueRow 10 = .ok (.istore_n 2, 1) := by decide +kernel
theorem dX7_trueRow_11 : decode cX7_trueRow 11 = .ok (.iconst 0, 1) := by decide +kernel
theorem dX7_trueRow_12 : decode cX7_trueRow 12 = .ok (.istore_n 3, 1) := by decide +kernel
theorem dX7_trueRow_13 : decode cX7_trueRow 13 = .ok (.iload_n 3, 1) := by decide +kernel
theorem dX7_trueRow_14 : decode cX7_trueRow 14 = .ok (.aload_n 0, 1) := by decide +kernel
theorem dX7_trueRow_15 : decode cX7_trueRow 15 = .ok (.getfield 33, 3) := by decide +kernel
theorem dX7_trueRow_18 : decode cX7_trueRow 18 = .ok (.if_icmp .ge 29, 3) := by decide +kernel
theorem dX7_trueRow_21 : decode cX7_trueRow 21 = .ok (.iload_n 2, 1) := by decide +kernel
theorem dX7_trueRow_22 : decode cX7_trueRow 22 = .ok (.iload_n 3, 1) := by decide +kernel
theorem dX7_trueRow_23 : decode cX7_trueRow 23 = .ok (.iconst 3, 1) := by decide +kernel
theorem dX7_trueRow_24 : decode cX7_trueRow 24 = .ok (.aload_n 0, 1) := by decide +kernel
theorem dX7_trueRow_25 : decode cX7_trueRow 25 = .ok (.getfield 33, 3) := by decide +kernel
theorem dX7_trueRow_28 : decode cX7_trueRow 28 = .ok (.iconst 1, 1) := by decide +kernel
theorem dX7_trueRow_29 : decode cX7_trueRow 29 = .ok (.isub, 1) := by decide +kernel
theorem dX7_trueRow_30 : decode cX7_trueRow 30 = .ok (.aload_n 0, 1) := by decide +kernel
theorem dX7_trueRow_31 : decode cX7_trueRow 31 = .ok (.iload_n 1, 1) := by decide +kernel
theorem dX7_trueRow_32 : decode cX7_trueRow 32 = .ok (.iload_n 3, 1) := by decide +kernel
theorem dX7_trueRow_33 : decode cX7_trueRow 33 = .ok (.invokevirtual 65, 3) := by decide +kernel
theorem dX7_trueRow_36 : decode cX7_trueRow 36 = .ok (.isub, 1) := by decide +kernel
theorem dX7_trueRow_37 : decode cX7_trueRow 37 = .ok (.imul, 1) := by decide +kernel
theorem dX7_trueRow_38 : decode cX7_trueRow 38 = .ok (.ishl, 1) := by decide +kernel
theorem dX7_trueRow_39 : decode cX7_trueRow 39 = .ok (.ior, 1) := by decide +kernel
theorem dX7_trueRow_40 : decode cX7_trueRow 40 = .ok (.istore_n 2, 1) := by decide +kernel
theorem dX7_trueRow_41 : decode cX7_trueRow 41 = .ok (.iinc 3 1, 3) := by decide +kernel
theorem dX7_trueRow_44 : decode cX7_trueRow 44 = .ok (.goto (-31), 3) := by decide +kernel
theorem dX7_trueRow_47 : decode cX7_trueRow 47 = .ok (.iload_n 2, 1) := by decide +kernel
theorem dX7_trueRow_48 : decode cX7_trueRow 48 = .ok (.ireturn, 1) := by decide +kernel
def VX7_trueRow_13 (d : Nat) (Q : Out → MS → Prop) : Nat → Nat → Int → Int → Int → MS → Prop
  | 0, _, _, _, _, _ => False
  | n + 1, x0, x1, x2, x3, S => S.K x0 = 7 ∧ ((R32 x3 ∧ R32 (S.I x0 7)) ∧ (((S.I x0 7) ≤ x3) → Q (.inl (some (vI x2))) S) ∧ (¬ ((S.I x0 7) ≤ x3) → S.K x0 = 7 ∧ (S.K x0 = 7 ∧ Mw hX7_heavierIn yX7_heavierIn d [vA x0, vI x1, vI x3] S (oI (fun r1 S1 => (VX7_trueRow_13 d Q n) x0 x1 (iOr x2 (iShl x3 (3 * (((S.I x0 7) - 1) - r1)))) (x3 + 1) S1)))))
theorem JX7_trueRow_13 {d : Nat} {S0 : MS} {Q : Out → MS → Prop} : ∀ (n : Nat) (x0 : Nat) (x1 : Int) (x2 : Int) (x3 : Int) (S : MS), VX7_trueRow_13 d Q n x0 x1 x2 x3 S → Jw FinM RX7 cX7_trueRow 4 (some .int) [] yX7_trueRow (d + 1) S0 S 13 [(0, vA x0), (1, vI x1), (2, vI x2), (3, vI x3)] [] Q := by
  intro n
  induction n with
  | zero => intro x0 x1 x2 x3 S h; exact h.elim
  | succ n ih =>
    intro x0 x1 x2 x3 S h
    exact j_iload_n 3 dX7_trueRow_13 rfl (j_aload_n 0 dX7_trueRow_14 rfl (j_getI 7 7 f_RX7_33 dX7_trueRow_15 h (fun h => j_icmp_ge (tgt := 47) dX7_trueRow_18 (by decide) h (fun h => j_iload_n 2 dX7_trueRow_47 rfl (j_iret rfl dX7_trueRow_48 h)) (fun h => j_iload_n 2 dX7_trueRow_21 rfl (j_iload_n 3 dX7_trueRow_22 rfl (j_iconst dX7_trueRow_23 (j_aload_n 0 dX7_trueRow_24 rfl (j_getI 7 7 f_RX7_33 dX7_trueRow_25 h (fun h => j_iconst dX7_trueRow_28 (j_isub dX7_trueRow_29 (j_aload_n 0 dX7_trueRow_30 rfl (j_iload_n 1 dX7_trueRow_31 rfl (j_iload_n 3 dX7_trueRow_32 rfl (j_callV (rest := [vI ((S.I x0 7) - 1), vI 3, vI x3, vI x2]) 7 [vI x1, vI x3] k_RX7_65 ⟨w_4_18, w_4_19⟩ ⟨_, _, rfl⟩ (by decide) rfl rfl (Nat.le_of_ble_eq_true rfl) dX7_trueRow_33 h (kI (fun r1 S1 h => j_isub dX7_trueRow_36 (j_imul dX7_trueRow_37 (j_ishl dX7_trueRow_38 (j_ior dX7_trueRow_39 (j_istore_n (lv2 := [(2, vI (iOr x2 (iShl x3 (3 * (((S.I x0 7) - 1) - r1))))), (0, vA x0), (1, vI x1), (3, vI x3)]) dX7_trueRow_40 (by decide) rfl (j_iinc 3 (lv2 := [(3, vI (x3 + 1)), (2, vI (iOr x2 (iShl x3 (3 * (((S.I x0 7) - 1) - r1))))), (0, vA x0), (1, vI x1)]) dX7_trueRow_41 rfl (by decide) rfl (j_goto (tgt := 13) dX7_trueRow_44 (by decide) (j_sub [2, 3, 1, 0] rfl (ih _ _ _ _ _ h)))))))))) (fun _ _ h => h.elim)))))))))))))))
def VX7_trueRow_0 (d : Nat) (Q : Out → MS → Prop) (x0 : Nat) (S : MS) : Prop :=
  S.K x0 = 7 ∧ (∃ m, VX7_trueRow_13 d Q m x0 ((iShl 1 (S.I x0 7)) - 1) 0 0 S)
theorem JX7_trueRow_0 {d : Nat} {S0 : MS} {Q : Out → MS → Prop} (x0 : Nat) (S : MS) (h : VX7_trueRow_0 d Q x0 S) : Jw FinM RX7 cX7_trueRow 4 (some .int) [] yX7_trueRow (d + 1) S0 S 0 [(0, vA x0)] [] Q :=
  j_iconst dX7_trueRow_0 (j_aload_n 0 dX7_trueRow_1 rfl (j_getI 7 7 f_RX7_33 dX7_trueRow_2 h (fun h => j_ishl dX7_trueRow_5 (j_iconst dX7_trueRow_6 (j_isub dX7_trueRow_7 (j_istore_n (lv2 := [(1, vI ((iShl 1 (S.I x0 7)) - 1)), (0, vA x0)]) dX7_trueRow_8 (by decide) rfl (j_iconst dX7_trueRow_9 (j_istore_n (lv2 := [(2, vI 0), (1, vI ((iShl 1 (S.I x0 7)) - 1)), (0, vA x0)]) dX7_trueRow_10 (by decide) rfl (j_iconst dX7_trueRow_11 (j_istore_n (lv2 := [(3, vI 0), (2, vI 0), (1, vI ((iShl 1 (S.I x0 7)) - 1)), (0, vA x0)]) dX7_trueRow_12 (by decide) rfl (Exists.elim h (fun m h => j_sub [3, 2, 1, 0] rfl (JX7_trueRow_13 m _ _ _ _ _ h)))))))))))))
theorem MX7_trueRow {d : Nat} {x0 : Nat} {S : MS} {Q : Out → MS → Prop} (h : VX7_trueRow_0 d Q x0 S) : Mw hX7_trueRow yX7_trueRow (d + 1) [vA x0] S Q := Mw.ofJ (by decide) (Nat.le_of_ble_eq_true rfl) (JX7_trueRow_0 _ S h)
theorem dX7_spentCoin_0 : decode cX7_spentCoin 0 = .ok (.iconst 0, 1) := by decide +kernel
theorem dX7_spentCoin_1 : decode cX7_spentCoin 1 = .ok (.istore_n 1, 1) := by decide +kernel
theorem dX7_spentCoin_2 : decode cX7_spentCoin 2 = .ok (.iconst 0, 1) := by decide +kernel
theorem dX7_spentCoin_3 : decode cX7_spentCoin 3 = .ok (.istore_n 2, 1) := by decide +kernel
theorem dX7_spentCoin_4 : decode cX7_spentCoin 4 = .ok (.iload_n 2, 1) := by decide +kernel
theorem dX7_spentCoin_5 : decode cX7_spentCoin 5 = .ok (.aload_n 0, 1) := by decide +kernel
theorem dX7_spentCoin_6 : decode cX7_spentCoin 6 = .ok (.getfield 40, 3) := by decide +kernel
theorem dX7_spentCoin_9 : decode cX7_spentCoin 9 = .ok (.if_icmp .ge 23, 3) := by decide +kernel
theorem dX7_spentCoin_12 : decode cX7_spentCoin 12 = .ok (.iload_n 1, 1) := by decide +kernel
theorem dX7_spentCoin_13 : decode cX7_spentCoin 13 = .ok (.aload_n 0, 1) := by decide +kernel
theorem dX7_spentCoin_14 : decode cX7_spentCoin 14 = .ok (.getfield 18, 3) := by decide +kernel
theorem dX7_spentCoin_17 : decode cX7_spentCoin 17 = .ok (.aload_n 0, 1) := by decide +kernel
theorem dX7_spentCoin_18 : decode cX7_spentCoin 18 = .ok (.getfield 24, 3) := by decide +kernel
theorem dX7_spentCoin_21 : decode cX7_spentCoin 21 = .ok (.iload_n 2, 1) := by decide +kernel
theorem dX7_spentCoin_22 : decode cX7_spentCoin 22 = .ok (.iaload, 1) := by decide +kernel
theorem dX7_spentCoin_23 : decode cX7_spentCoin 23 = .ok (.iaload, 1) := by decide +kernel
theorem dX7_spentCoin_24 : decode cX7_spentCoin 24 = .ok (.iadd, 1) := by decide +kernel
theorem dX7_spentCoin_25 : decode cX7_spentCoin 25 = .ok (.istore_n 1, 1) := by decide +kernel
theorem dX7_spentCoin_26 : decode cX7_spentCoin 26 = .ok (.iinc 2 1, 3) := by decide +kernel
theorem dX7_spentCoin_29 : decode cX7_spentCoin 29 = .ok (.goto (-25), 3) := by decide +kernel
theorem dX7_spentCoin_32 : decode cX7_spentCoin 32 = .ok (.iload_n 1, 1) := by decide +kernel
theorem dX7_spentCoin_33 : decode cX7_spentCoin 33 = .ok (.ireturn, 1) := by decide +kernel
def VX7_spentCoin_4 (d : Nat) (Q : Out → MS → Prop) : Nat → Nat → Int → Int → MS → Prop
  | 0, _, _, _, _ => False
  | n + 1, x0, x1, x2, S => S.K x0 = 7 ∧ ((R32 x2 ∧ R32 (S.I x0 9)) ∧ (((S.I x0 9) ≤ x2) → Q (.inl (some (vI x1))) S) ∧ (¬ ((S.I x0 9) ≤ x2) → S.K x0 = 7 ∧ ∃ b1, S.R x0 2 = some b1 ∧ (S.K x0 = 7 ∧ ∃ b2, S.R x0 4 = some b2 ∧ ((S.K b2 = 13 ∧ 0 ≤ x2 ∧ x2 < S.N b2) ∧ ((S.K b1 = 13 ∧ 0 ≤ (S.I b2 (x2).toNat) ∧ (S.I b2 (x2).toNat) < S.N b1) ∧ ((VX7_spentCoin_4 d Q n) x0 (x1 + (S.I b1 ((S.I b2 (x2).toNat)).toNat)) (x2 + 1) S))))))
theorem JX7_spentCoin_4 {d : Nat} {S0 : MS} {Q : Out → MS → Prop} : ∀ (n : Nat) (x0 : Nat) (x1 : Int) (x2 : Int) (S : MS), VX7_spentCoin_4 d Q n x0 x1 x2 S → Jw FinM RX7 cX7_spentCoin 3 (some .int) [] yX7_spentCoin (d + 1) S0 S 4 [(0, vA x0), (1, vI x1), (2, vI x2)] [] Q := by
  intro n
  induction n with
  | zero => intro x0 x1 x2 S h; exact h.elim
  | succ n ih =>
    intro x0 x1 x2 S h
    exact j_iload_n 2 dX7_spentCoin_4 rfl (j_aload_n 0 dX7_spentCoin_5 rfl (j_getI 7 9 f_RX7_40 dX7_spentCoin_6 h (fun h => j_icmp_ge (tgt := 32) dX7_spentCoin_9 (by decide) h (fun h => j_iload_n 1 dX7_spentCoin_32 rfl (j_iret rfl dX7_spentCoin_33 h)) (fun h => j_iload_n 1 dX7_spentCoin_12 rfl (j_aload_n 0 dX7_spentCoin_13 rfl (j_getR 7 2 f_RX7_18 dX7_spentCoin_14 h (fun b1 h => j_aload_n 0 dX7_spentCoin_17 rfl (j_getR 7 4 f_RX7_24 dX7_spentCoin_18 h (fun b2 h => j_iload_n 2 dX7_spentCoin_21 rfl (j_iald dX7_spentCoin_22 h (fun h => j_iald dX7_spentCoin_23 h (fun h => j_iadd dX7_spentCoin_24 (j_istore_n (lv2 := [(1, vI (x1 + (S.I b1 ((S.I b2 (x2).toNat)).toNat))), (0, vA x0), (2, vI x2)]) dX7_spentCoin_25 (by decide) rfl (j_iinc 2 (lv2 := [(2, vI (x2 + 1)), (1, vI (x1 + (S.I b1 ((S.I b2 (x2).toNat)).toNat))), (0, vA x0)]) dX7_spentCoin_26 rfl (by decide) rfl (j_goto (tgt := 4) dX7_spentCoin_29 (by decide) (j_sub [2, 1, 0] rfl (ih _ _ _ _ h)))))))))))))))))
def VX7_spentCoin_0 (d : Nat) (Q : Out → MS → Prop) (x0 : Nat) (S : MS) : Prop :=
  ∃ m, VX7_spentCoin_4 d Q m x0 0 0 S
theorem JX7_spentCoin_0 {d : Nat} {S0 : MS} {Q : Out → MS → Prop} (x0 : Nat) (S : MS) (h : VX7_spentCoin_0 d Q x0 S) : Jw FinM RX7 cX7_spentCoin 3 (some .int) [] yX7_spentCoin (d + 1) S0 S 0 [(0, vA x0)] [] Q :=
  j_iconst dX7_spentCoin_0 (j_istore_n (lv2 := [(1, vI 0), (0, vA x0)]) dX7_spentCoin_1 (by decide) rfl (j_iconst dX7_spentCoin_2 (j_istore_n (lv2 := [(2, vI 0), (1, vI 0), (0, vA x0)]) dX7_spentCoin_3 (by decide) rfl (Exists.elim h (fun m h => j_sub [2, 1, 0] rfl (JX7_spentCoin_4 m _ _ _ _ h))))))
theorem MX7_spentCoin {d : Nat} {x0 : Nat} {S : MS} {Q : Out → MS → Prop} (h : VX7_spentCoin_0 d Q x0 S) : Mw hX7_spentCoin yX7_spentCoin (d + 1) [vA x0] S Q := Mw.ofJ (by decide) (Nat.le_of_ble_eq_true rfl) (JX7_spentCoin_0 _ S h)
theorem dX7_falseNotes_0 : decode cX7_falseNotes 0 = .ok (.iconst 0, 1) := by decide +kernel
theorem dX7_falseNotes_1 : decode cX7_falseNotes 1 = .ok (.istore_n 1, 1) := by decide +kernel
theorem dX7_falseNotes_2 : decode cX7_falseNotes 2 = .ok (.iconst 0, 1) := by decide +kernel
theorem dX7_falseNotes_3 : decode cX7_falseNotes 3 = .ok (.istore_n 2, 1) := by decide +kernel
theorem dX7_falseNotes_4 : decode cX7_falseNotes 4 = .ok (.iload_n 2, 1) := by decide +kernel
theorem dX7_falseNotes_5 : decode cX7_falseNotes 5 = .ok (.aload_n 0, 1) := by decide +kernel
theorem dX7_falseNotes_6 : decode cX7_falseNotes 6 = .ok (.getfield 40, 3) := by decide +kernel
theorem dX7_falseNotes_9 : decode cX7_falseNotes 9 = .ok (.if_icmp .ge 41, 3) := by decide +kernel
theorem dX7_falseNotes_12 : decode cX7_falseNotes 12 = .ok (.iload_n 1, 1) := by decide +kernel
theorem dX7_falseNotes_13 : decode cX7_falseNotes 13 = .ok (.aload_n 0, 1) := by decide +kernel
theorem dX7_falseNotes_14 : decode cX7_falseNotes 14 = .ok (.aload_n 0, 1) := by decide +kernel
theorem dX7_falseNotes_15 : decode cX7_falseNotes 15 = .ok (.iload_n 2, 1) := by decide +kernel
theorem dX7_falseNotes_16 : decode cX7_falseNotes 16 = .ok (.invokevirtual 72, 3) := by decide +kernel
theorem dX7_falseNotes_19 : decode cX7_falseNotes 19 = .ok (.aload_n 0, 1) := by decide +kernel
theorem dX7_falseNotes_20 : decode cX7_falseNotes 20 = .ok (.getfield 27, 3) := by decide +kernel
theorem dX7_falseNotes_23 : decode cX7_falseNotes 23 = .ok (.iload_n 2, 1) := by decide +kernel
theorem dX7_falseNotes_24 : decode cX7_falseNotes 24 = .ok (.iaload, 1) := by decide +kernel
theorem dX7_falseNotes_25 : decode cX7_falseNotes 25 = .ok (.invokevirtual 75, 3) := by decide +kernel
theorem dX7_falseNotes_28 : decode cX7_falseNotes 28 = .ok (.aload_n 0, 1) := by decide +kernel
theorem dX7_falseNotes_29 : decode cX7_falseNotes 29 = .ok (.getfield 30, 3) := by decide +kernel
theorem dX7_falseNotes_32 : decode cX7_falseNotes 32 = .ok (.iload_n 2, 1) := by decide +kernel
theorem dX7_falseNotes_33 : decode cX7_falseNotes 33 = .ok (.iaload, 1) := by decide +kernel
theorem dX7_falseNotes_34 : decode cX7_falseNotes 34 = .ok (.if_icmp .eq 7, 3) := by decide +kernel
theorem dX7_falseNotes_37 : decode cX7_falseNotes 37 = .ok (.iconst 1, 1) := by decide +kernel
theorem dX7_falseNotes_38 : decode cX7_falseNotes 38 = .ok (.goto 4, 3) := by decide +kernel
theorem dX7_falseNotes_41 : decode cX7_falseNotes 41 = .ok (.iconst 0, 1) := by decide +kernel
theorem dX7_falseNotes_42 : decode cX7_falseNotes 42 = .ok (.iadd, 1) := by decide +kernel
theorem dX7_falseNotes_43 : decode cX7_falseNotes 43 = .ok (.istore_n 1, 1) := by decide +kernel
theorem dX7_falseNotes_44 : decode cX7_falseNotes 44 = .ok (.iinc 2 1, 3) := by decide +kernel
theorem dX7_falseNotes_47 : decode cX7_falseNotes 47 = .ok (.goto (-43), 3) := by decide +kernel
theorem dX7_falseNotes_50 : decode cX7_falseNotes 50 = .ok (.iload_n 1, 1) := by decide +kernel
theorem dX7_falseNotes_51 : decode cX7_falseNotes 51 = .ok (.ireturn, 1) := by decide +kernel
def VX7_falseNotes_42 (d : Nat) (c4 : Nat → Int → Int → MS → Prop) (Q : Out → MS → Prop) (x0 : Nat) (x2 : Int) (t0 : Int) (t1 : Int) (S : MS) : Prop :=
  c4 x0 (t1 + t0) (x2 + 1) S
theorem JX7_falseNotes_42 {d : Nat} {c4 : Nat → Int → Int → MS → Prop} {S0 : MS} {Q : Out → MS → Prop} (hc4 : ∀ (x0 : Nat) (x1 : Int) (x2 : Int) (S : MS), c4 x0 x1 x2 S → Jw FinM RX7 cX7_falseNotes 3 (some .int) [] yX7_falseNotes (d + 1) S0 S 4 [(0, vA x0), (1, vI x1), (2, vI x2)] [] Q) (x0 : Nat) (x2 : Int) (t0 : Int) (t1 : Int) (S : MS) (h : VX7_falseNotes_42 d c4 Q x0 x2 t0 t1 S) : Jw FinM RX7 cX7_falseNotes 3 (some .int) [] yX7_falseNotes (d + 1) S0 S 42 [(0, vA x0), (2, vI x2)] [vI t0, vI t1] Q :=
  j_iadd dX7_falseNotes_42 (j_istore_n (lv2 := [(1, vI (t1 + t0)), (0, vA x0), (2, vI x2)]) dX7_falseNotes_43 (by decide) rfl (j_iinc 2 (lv2 := [(2, vI (x2 + 1)), (1, vI (t1 + t0)), (0, vA x0)]) dX7_falseNotes_44 rfl (by decide) rfl (j_goto (tgt := 4) dX7_falseNotes_47 (by decide) (j_sub [2, 1, 0] rfl (hc4 _ _ _ _ h)))))
def VX7_falseNotes_4 (d : Nat) (Q : Out → MS → Prop) : Nat → Nat → Int → Int → MS → Prop
  | 0, _, _, _, _ => False
  | n + 1, x0, x1, x2, S => S.K x0 = 7 ∧ ((R32 x2 ∧ R32 (S.I x0 9)) ∧ (((S.I x0 9) ≤ x2) → Q (.inl (some (vI x1))) S) ∧ (¬ ((S.I x0 9) ≤ x2) → S.K x0 = 7 ∧ Mw hX7_kindOfNote yX7_kindOfNote d [vA x0, vI x2] S (oI (fun r1 S1 => S1.K x0 = 7 ∧ ∃ b2, S1.R x0 5 = some b2 ∧ ((S1.K b2 = 13 ∧ 0 ≤ x2 ∧ x2 < S1.N b2) ∧ (S1.K x0 = 7 ∧ Mw hX7_riser yX7_riser d [vA x0, vI r1, vI (S1.I b2 (x2).toNat)] S1 (oI (fun r3 S3 => S3.K x0 = 7 ∧ ∃ b4, S3.R x0 6 = some b4 ∧ ((S3.K b4 = 13 ∧ 0 ≤ x2 ∧ x2 < S3.N b4) ∧ ((R32 r3 ∧ R32 (S3.I b4 (x2).toNat)) ∧ ((r3 = (S3.I b4 (x2).toNat)) → VX7_falseNotes_42 d (VX7_falseNotes_4 d Q n) Q x0 x2 0 x1 S3) ∧ (¬ (r3 = (S3.I b4 (x2).toNat)) → VX7_falseNotes_42 d (VX7_falseNotes_4 d Q n) Q x0 x2 1 x1 S3)))))))))))
theorem JX7_falseNotes_4 {d : Nat} {S0 : MS} {Q : Out → MS → Prop} : ∀ (n : Nat) (x0 : Nat) (x1 : Int) (x2 : Int) (S : MS), VX7_falseNotes_4 d Q n x0 x1 x2 S → Jw FinM RX7 cX7_falseNotes 3 (some .int) [] yX7_falseNotes (d + 1) S0 S 4 [(0, vA x0), (1, vI x1), (2, vI x2)] [] Q := by
  intro n
  induction n with
  | zero => intro x0 x1 x2 S h; exact h.elim
  | succ n ih =>
    intro x0 x1 x2 S h
    exact j_iload_n 2 dX7_falseNotes_4 rfl (j_aload_n 0 dX7_falseNotes_5 rfl (j_getI 7 9 f_RX7_40 dX7_falseNotes_6 h (fun h => j_icmp_ge (tgt := 50) dX7_falseNotes_9 (by decide) h (fun h => j_iload_n 1 dX7_falseNotes_50 rfl (j_iret rfl dX7_falseNotes_51 h)) (fun h => j_iload_n 1 dX7_falseNotes_12 rfl (j_aload_n 0 dX7_falseNotes_13 rfl (j_aload_n 0 dX7_falseNotes_14 rfl (j_iload_n 2 dX7_falseNotes_15 rfl (j_callV (rest := [vA x0, vI x1]) 7 [vI x2] k_RX7_72 ⟨w_2_215, w_2_216⟩ ⟨_, _, rfl⟩ (by decide) rfl rfl (Nat.le_of_ble_eq_true rfl) dX7_falseNotes_16 h (kI (fun r1 S1 h => j_aload_n 0 dX7_falseNotes_19 rfl (j_getR 7 5 f_RX7_27 dX7_falseNotes_20 h (fun b2 h => j_iload_n 2 dX7_falseNotes_23 rfl (j_iald dX7_falseNotes_24 h (fun h => j_callV (rest := [vI x1]) 7 [vI r1, vI (S1.I b2 (x2).toNat)] k_RX7_75 ⟨w_4_13, w_4_14⟩ ⟨_, _, rfl⟩ (by decide) rfl rfl (Nat.le_of_ble_eq_true rfl) dX7_falseNotes_25 h (kI (fun r3 S3 h => j_aload_n 0 dX7_falseNotes_28 rfl (j_getR 7 6 f_RX7_30 dX7_falseNotes_29 h (fun b4 h => j_iload_n 2 dX7_falseNotes_32 rfl (j_iald dX7_falseNotes_33 h (fun h => j_icmp_eq (tgt := 41) dX7_falseNotes_34 (by decide) h (fun h => j_iconst dX7_falseNotes_41 (j_sub [0, 2] rfl (JX7_falseNotes_42 ih _ _ _ _ _ h))) (fun h => j_iconst dX7_falseNotes_37 (j_goto (tgt := 42) dX7_falseNotes_38 (by decide) (j_sub [0, 2] rfl (JX7_falseNotes_42 ih _ _ _ _ _ h)))))))))) (fun _ _ h => h.elim))))))) (fun _ _ h => h.elim)))))))))
def VX7_falseNotes_0 (d : Nat) (Q : Out → MS → Prop) (x0 : Nat) (S : MS) : Prop :=
  ∃ m, VX7_falseNotes_4 d Q m x0 0 0 S
theorem JX7_falseNotes_0 {d : Nat} {S0 : MS} {Q : Out → MS → Prop} (x0 : Nat) (S : MS) (h : VX7_falseNotes_0 d Q x0 S) : Jw FinM RX7 cX7_falseNotes 3 (some .int) [] yX7_falseNotes (d + 1) S0 S 0 [(0, vA x0)] [] Q :=
  j_iconst dX7_falseNotes_0 (j_istore_n (lv2 := [(1, vI 0), (0, vA x0)]) dX7_falseNotes_1 (by decide) rfl (j_iconst dX7_falseNotes_2 (j_istore_n (lv2 := [(2, vI 0), (1, vI 0), (0, vA x0)]) dX7_falseNotes_3 (by decide) rfl (Exists.elim h (fun m h => j_sub [2, 1, 0] rfl (JX7_falseNotes_4 m _ _ _ _ h))))))
theorem MX7_falseNotes {d : Nat} {x0 : Nat} {S : MS} {Q : Out → MS → Prop} (h : VX7_falseNotes_0 d Q x0 S) : Mw hX7_falseNotes yX7_falseNotes (d + 1) [vA x0] S Q := Mw.ofJ (by decide) (Nat.le_of_ble_eq_true rfl) (JX7_falseNotes_0 _ S h)
theorem dX7_timesRisen_0 : decode cX7_timesRisen 0 = .ok (.iconst 0, 1) := by decide +kernel
theorem dX7_timesRisen_1 : decode cX7_timesRisen 1 = .ok (.istore_n 3, 1) := by decide +kernel
theorem dX7_timesRisen_2 : decode cX7_timesRisen 2 = .ok (.iconst 0, 1) := by decide +kernel
theorem dX7_timesRisen_3 : decode cX7_timesRisen 3 = .ok (.istore 4, 2) := by decide +kernel
theorem dX7_timesRisen_5 : decode cX7_timesRisen 5 = .ok (.iload 4, 2) := by decide +kernel
theorem dX7_timesRisen_7 : decode cX7_timesRisen 7 = .ok (.aload_n 0, 1) := by decide +kernel
theorem dX7_timesRisen_8 : decode cX7_timesRisen 8 = .ok (.getfield 40, 3) := by decide +kernel
theorem dX7_timesRisen_11 : decode cX7_timesRisen 11 = .ok (.if_icmp .ge 60, 3) := by decide +kernel
theorem dX7_timesRisen_14 : decode cX7_timesRisen 14 = .ok (.aload_n 0, 1) := by decide +kernel
theorem dX7_timesRisen_15 : decode cX7_timesRisen 15 = .ok (.iload 4, 2) := by decide +kernel
theorem dX7_timesRisen_17 : decode cX7_timesRisen 17 = .ok (.invokevirtual 72, 3) := by decide +kernel
theorem dX7_timesRisen_20 : decode cX7_timesRisen 20 = .ok (.ifCond .ne 29, 3) := by decide +kernel
theorem dX7_timesRisen_23 : decode cX7_timesRisen 23 = .ok (.aload_n 0, 1) := by decide +kernel
theorem dX7_timesRisen_24 : decode cX7_timesRisen 24 = .ok (.getfield 27, 3) := by decide +kernel
theorem dX7_timesRisen_27 : decode cX7_timesRisen 27 = .ok (.iload 4, 2) := by decide +kernel
theorem dX7_timesRisen_29 : decode cX7_timesRisen 29 = .ok (.iaload, 1) := by decide +kernel
theorem dX7_timesRisen_30 : decode cX7_timesRisen 30 = .ok (.iload_n 1, 1) := by decide +kernel
theorem dX7_timesRisen_31 : decode cX7_timesRisen 31 = .ok (.if_icmp .ne 18, 3) := by decide +kernel
theorem dX7_timesRisen_34 : decode cX7_timesRisen 34 = .ok (.aload_n 0, 1) := by decide +kernel
theorem dX7_timesRisen_35 : decode cX7_timesRisen 35 = .ok (.getfield 30, 3) := by decide +kernel
theorem dX7_timesRisen_38 : decode cX7_timesRisen 38 = .ok (.iload 4, 2) := by decide +kernel
theorem dX7_timesRisen_40 : decode cX7_timesRisen 40 = .ok (.iaload, 1) := by decide +kernel
theorem dX7_timesRisen_41 : decode cX7_timesRisen 41 = .ok (.iload_n 2, 1) := by decide +kernel
theorem dX7_timesRisen_42 : decode cX7_timesRisen 42 = .ok (.if_icmp .ne 7, 3) := by decide +kernel
theorem dX7_timesRisen_45 : decode cX7_timesRisen 45 = .ok (.iconst 1, 1) := by decide +kernel
theorem dX7_timesRisen_46 : decode cX7_timesRisen 46 = .ok (.goto 4, 3) := by decide +kernel
theorem dX7_timesRisen_49 : decode cX7_timesRisen 49 = .ok (.iconst 0, 1) := by decide +kernel
theorem dX7_timesRisen_50 : decode cX7_timesRisen 50 = .ok (.istore 5, 2) := by decide +kernel
theorem dX7_timesRisen_52 : decode cX7_timesRisen 52 = .ok (.iload_n 3, 1) := by decide +kernel
theorem dX7_timesRisen_53 : decode cX7_timesRisen 53 = .ok (.iload 5, 2) := by decide +kernel
theorem dX7_timesRisen_55 : decode cX7_timesRisen 55 = .ok (.ifCond .eq 7, 3) := by decide +kernel
theorem dX7_timesRisen_58 : decode cX7_timesRisen 58 = .ok (.iconst 1, 1) := by decide +kernel
theorem dX7_timesRisen_59 : decode cX7_timesRisen 59 = .ok (.goto 4, 3) := by decide +kernel
theorem dX7_timesRisen_62 : decode cX7_timesRisen 62 = .ok (.iconst 0, 1) := by decide +kernel
theorem dX7_timesRisen_63 : decode cX7_timesRisen 63 = .ok (.iadd, 1) := by decide +kernel
theorem dX7_timesRisen_64 : decode cX7_timesRisen 64 = .ok (.istore_n 3, 1) := by decide +kernel
theorem dX7_timesRisen_65 : decode cX7_timesRisen 65 = .ok (.iinc 4 1, 3) := by decide +kernel
theorem dX7_timesRisen_68 : decode cX7_timesRisen 68 = .ok (.goto (-63), 3) := by decide +kernel
theorem dX7_timesRisen_71 : decode cX7_timesRisen 71 = .ok (.iload_n 3, 1) := by decide +kernel
theorem dX7_timesRisen_72 : decode cX7_timesRisen 72 = .ok (.ireturn, 1) := by decide +kernel
def VX7_timesRisen_63 (d : Nat) (c5 : Nat → Int → Int → Int → Int → MS → Prop) (Q : Out → MS → Prop) (x0 : Nat) (x1 : Int) (x2 : Int) (x4 : Int) (t0 : Int) (t1 : Int) (S : MS) : Prop :=
  c5 x0 x1 x2 (t1 + t0) (x4 + 1) S
theorem JX7_timesRisen_63 {d : Nat} {c5 : Nat → Int → Int → Int → Int → MS → Prop} {S0 : MS} {Q : Out → MS → Prop} (hc5 : ∀ (x0 : Nat) (x1 : Int) (x2 : Int) (x3 : Int) (x4 : Int) (S : MS), c5 x0 x1 x2 x3 x4 S → Jw FinM RX7 cX7_timesRisen 6 (some .int) [] yX7_timesRisen (d + 1) S0 S 5 [(0, vA x0), (1, vI x1), (2, vI x2), (3, vI x3), (4, vI x4)] [] Q) (x0 : Nat) (x1 : Int) (x2 : Int) (x4 : Int) (t0 : Int) (t1 : Int) (S : MS) (h : VX7_timesRisen_63 d c5 Q x0 x1 x2 x4 t0 t1 S) : Jw FinM RX7 cX7_timesRisen 6 (some .int) [] yX7_timesRisen (d + 1) S0 S 63 [(0, vA x0), (1, vI x1), (2, vI x2), (4, vI x4)] [vI t0, vI t1] Q :=
  j_iadd dX7_timesRisen_63 (j_istore_n (lv2 := [(3, vI (t1 + t0)), (0, vA x0), (1, vI x1), (2, vI x2), (4, vI x4)]) dX7_timesRisen_64 (by decide) rfl (j_iinc 4 (lv2 := [(4, vI (x4 + 1)), (3, vI (t1 + t0)), (0, vA x0), (1, vI x1), (2, vI x2)]) dX7_timesRisen_65 rfl (by decide) rfl (j_goto (tgt := 5) dX7_timesRisen_68 (by decide) (j_sub [2, 3, 4, 1, 0] rfl (hc5 _ _ _ _ _ _ h)))))
def VX7_timesRisen_50 (d : Nat) (c5 : Nat → Int → Int → Int → Int → MS → Prop) (Q : Out → MS → Prop) (x0 : Nat) (x1 : Int) (x2 : Int) (x3 : Int) (x4 : Int) (t0 : Int) (S : MS) : Prop :=
  R32 t0 ∧ ((t0 = 0) → VX7_timesRisen_63 d c5 Q x0 x1 x2 x4 0 x3 S) ∧ (¬ (t0 = 0) → VX7_timesRisen_63 d c5 Q x0 x1 x2 x4 1 x3 S)
theorem JX7_timesRisen_50 {d : Nat} {c5 : Nat → Int → Int → Int → Int → MS → Prop} {S0 : MS} {Q : Out → MS → Prop} (hc5 : ∀ (x0 : Nat) (x1 : Int) (x2 : Int) (x3 : Int) (x4 : Int) (S : MS), c5 x0 x1 x2 x3 x4 S → Jw FinM RX7 cX7_timesRisen 6 (some .int) [] yX7_timesRisen (d + 1) S0 S 5 [(0, vA x0), (1, vI x1), (2, vI x2), (3, vI x3), (4, vI x4)] [] Q) (x0 : Nat) (x1 : Int) (x2 : Int) (x3 : Int) (x4 : Int) (t0 : Int) (S : MS) (h : VX7_timesRisen_50 d c5 Q x0 x1 x2 x3 x4 t0 S) : Jw FinM RX7 cX7_timesRisen 6 (some .int) [] yX7_timesRisen (d + 1) S0 S 50 [(0, vA x0), (1, vI x1), (2, vI x2), (3, vI x3), (4, vI x4)] [vI t0] Q :=
  j_istore (lv2 := [(5, vI t0), (0, vA x0), (1, vI x1), (2, vI x2), (3, vI x3), (4, vI x4)]) dX7_timesRisen_50 (by decide) rfl (j_iload_n 4 dX7_timesRisen_52 rfl (j_iload 0 dX7_timesRisen_53 rfl (j_if_eq (tgt := 62) dX7_timesRisen_55 (by decide) h (fun h => j_iconst dX7_timesRisen_62 (j_sub [1, 2, 3, 5] rfl (JX7_timesRisen_63 hc5 _ _ _ _ _ _ _ h))) (fun h => j_iconst dX7_timesRisen_58 (j_goto (tgt := 63) dX7_timesRisen_59 (by decide) (j_sub [1, 2, 3, 5] rfl (JX7_timesRisen_63 hc5 _ _ _ _ _ _ _ h)))))))
def VX7_timesRisen_49 (d : Nat) (c5 : Nat → Int → Int → Int → Int → MS → Prop) (Q : Out → MS → Prop) (x0 : Nat) (x1 : Int) (x2 : Int) (x3 : Int) (x4 : Int) (S : MS) : Prop :=
  VX7_timesRisen_50 d c5 Q x0 x1 x2 x3 x4 0 S
theorem JX7_timesRisen_49 {d : Nat} {c5 : Nat → Int → Int → Int → Int → MS → Prop} {S0 : MS} {Q : Out → MS → Prop} (hc5 : ∀ (x0 : Nat) (x1 : Int) (x2 : Int) (x3 : Int) (x4 : Int) (S : MS), c5 x0 x1 x2 x3 x4 S → Jw FinM RX7 cX7_timesRisen 6 (some .int) [] yX7_timesRisen (d + 1) S0 S 5 [(0, vA x0), (1, vI x1), (2, vI x2), (3, vI x3), (4, vI x4)] [] Q) (x0 : Nat) (x1 : Int) (x2 : Int) (x3 : Int) (x4 : Int) (S : MS) (h : VX7_timesRisen_49 d c5 Q x0 x1 x2 x3 x4 S) : Jw FinM RX7 cX7_timesRisen 6 (some .int) [] yX7_timesRisen (d + 1) S0 S 49 [(0, vA x0), (1, vI x1), (2, vI x2), (3, vI x3), (4, vI x4)] [] Q :=
  j_iconst dX7_timesRisen_49 (JX7_timesRisen_50 hc5 _ _ _ _ _ _ _ h)
def VX7_timesRisen_5 (d : Nat) (Q : Out → MS → Prop) : Nat → Nat → Int → Int → Int → Int → MS → Prop
  | 0, _, _, _, _, _, _ => False
  | n + 1, x0, x1, x2, x3, x4, S => S.K x0 = 7 ∧ ((R32 x4 ∧ R32 (S.I x0 9)) ∧ (((S.I x0 9) ≤ x4) → Q (.inl (some (vI x3))) S) ∧ (¬ ((S.I x0 9) ≤ x4) → S.K x0 = 7 ∧ Mw hX7_kindOfNote yX7_kindOfNote d [vA x0, vI x4] S (oI (fun r1 S1 => R32 r1 ∧ (¬ (r1 = 0) → VX7_timesRisen_49 d (VX7_timesRisen_5 d Q n) Q x0 x1 x2 x3 x4 S1) ∧ ((r1 = 0) → S1.K x0 = 7 ∧ ∃ b2, S1.R x0 5 = some b2 ∧ ((S1.K b2 = 13 ∧ 0 ≤ x4 ∧ x4 < S1.N b2) ∧ ((R32 (S1.I b2 (x4).toNat) ∧ R32 x1) ∧ (¬ ((S1.I b2 (x4).toNat) = x1) → VX7_timesRisen_49 d (VX7_timesRisen_5 d Q n) Q x0 x1 x2 x3 x4 S1) ∧ (((S1.I b2 (x4).toNat) = x1) → S1.K x0 = 7 ∧ ∃ b3, S1.R x0 6 = some b3 ∧ ((S1.K b3 = 13 ∧ 0 ≤ x4 ∧ x4 < S1.N b3) ∧ ((R32 (S1.I b3 (x4).toNat) ∧ R32 x2) ∧ (¬ ((S1.I b3 (x4).toNat) = x2) → VX7_timesRisen_49 d (VX7_timesRisen_5 d Q n) Q x0 x1 x2 x3 x4 S1) ∧ (((S1.I b3 (x4).toNat) = x2) → VX7_timesRisen_50 d (VX7_timesRisen_5 d Q n) Q x0 x1 x2 x3 x4 1 S1)))))))))))
theorem JX7_timesRisen_5 {d : Nat} {S0 : MS} {Q : Out → MS → Prop} : ∀ (n : Nat) (x0 : Nat) (x1 : Int) (x2 : Int) (x3 : Int) (x4 : Int) (S : MS), VX7_timesRisen_5 d Q n x0 x1 x2 x3 x4 S → Jw FinM RX7 cX7_timesRisen 6 (some .int) [] yX7_timesRisen (d + 1) S0 S 5 [(0, vA x0), (1, vI x1), (2, vI x2), (3, vI x3), (4, vI x4)] [] Q := by
  intro n
  induction n with
  | zero => intro x0 x1 x2 x3 x4 S h; exact h.elim
  | succ n ih =>
    intro x0 x1 x2 x3 x4 S h
    exact j_iload 4 dX7_timesRisen_5 rfl (j_aload_n 0 dX7_timesRisen_7 rfl (j_getI 7 9 f_RX7_40 dX7_timesRisen_8 h (fun h => j_icmp_ge (tgt := 71) dX7_timesRisen_11 (by decide) h (fun h => j_iload_n 3 dX7_timesRisen_71 rfl (j_iret rfl dX7_timesRisen_72 h)) (fun h => j_aload_n 0 dX7_timesRisen_14 rfl (j_iload 4 dX7_timesRisen_15 rfl (j_callV (rest := []) 7 [vI x4] k_RX7_72 ⟨w_2_215, w_2_216⟩ ⟨_, _, rfl⟩ (by decide) rfl rfl (Nat.le_of_ble_eq_true rfl) dX7_timesRisen_17 h (kI (fun r1 S1 h => j_if_ne (tgt := 49) dX7_timesRisen_20 (by decide) h (fun h => JX7_timesRisen_49 ih _ _ _ _ _ _ h) (fun h => j_aload_n 0 dX7_timesRisen_23 rfl (j_getR 7 5 f_RX7_27 dX7_timesRisen_24 h (fun b2 h => j_iload 4 dX7_timesRisen_27 rfl (j_iald dX7_timesRisen_29 h (fun h => j_iload_n 1 dX7_timesRisen_30 rfl (j_icmp_ne (tgt := 49) dX7_timesRisen_31 (by decide) h (fun h => JX7_timesRisen_49 ih _ _ _ _ _ _ h) (fun h => j_aload_n 0 dX7_timesRisen_34 rfl (j_getR 7 6 f_RX7_30 dX7_timesRisen_35 h (fun b3 h => j_iload 4 dX7_timesRisen_38 rfl (j_iald dX7_timesRisen_40 h (fun h => j_iload_n 2 dX7_timesRisen_41 rfl (j_icmp_ne (tgt := 49) dX7_timesRisen_42 (by decide) h (fun h => JX7_timesRisen_49 ih _ _ _ _ _ _ h) (fun h => j_iconst dX7_timesRisen_45 (j_goto (tgt := 50) dX7_timesRisen_46 (by decide) (JX7_timesRisen_50 ih _ _ _ _ _ _ _ h))))))))))))))))) (fun _ _ h => h.elim)))))))
def VX7_timesRisen_0 (d : Nat) (Q : Out → MS → Prop) (x0 : Nat) (x1 : Int) (x2 : Int) (S : MS) : Prop :=
  ∃ m, VX7_timesRisen_5 d Q m x0 x1 x2 0 0 S
theorem JX7_timesRisen_0 {d : Nat} {S0 : MS} {Q : Out → MS → Prop} (x0 : Nat) (x1 : Int) (x2 : Int) (S : MS) (h : VX7_timesRisen_0 d Q x0 x1 x2 S) : Jw FinM RX7 cX7_timesRisen 6 (some .int) [] yX7_timesRisen (d + 1) S0 S 0 [(0, vA x0), (1, vI x1), (2, vI x2)] [] Q :=
  j_iconst dX7_timesRisen_0 (j_istore_n (lv2 := [(3, vI 0), (0, vA x0), (1, vI x1), (2, vI x2)]) dX7_timesRisen_1 (by decide) rfl (j_iconst dX7_timesRisen_2 (j_istore (lv2 := [(4, vI 0), (3, vI 0), (0, vA x0), (1, vI x1), (2, vI x2)]) dX7_timesRisen_3 (by decide) rfl (Exists.elim h (fun m h => j_sub [2, 3, 4, 1, 0] rfl (JX7_timesRisen_5 m _ _ _ _ _ _ h))))))
theorem MX7_timesRisen {d : Nat} {x0 : Nat} {x1 : Int} {x2 : Int} {S : MS} {Q : Out → MS → Prop} (h : VX7_timesRisen_0 d Q x0 x1 x2 S) : Mw hX7_timesRisen yX7_timesRisen (d + 1) [vA x0, vI x1, vI x2] S Q := Mw.ofJ (by decide) (Nat.le_of_ble_eq_true rfl) (JX7_timesRisen_0 _ _ _ S h)
theorem dX7_isNoted_0 : decode cX7_isNoted 0 = .ok (.iconst 0, 1) := by decide +kernel
theorem dX7_isNoted_1 : decode cX7_isNoted 1 = .ok (.istore_n 2, 1) := by decide +kernel
theorem dX7_isNoted_2 : decode cX7_isNoted 2 = .ok (.iconst 0, 1) := by decide +kernel
theorem dX7_isNoted_3 : decode cX7_isNoted 3 = .ok (.istore_n 3, 1) := by decide +kernel
theorem dX7_isNoted_4 : decode cX7_isNoted 4 = .ok (.iload_n 3, 1) := by decide +kernel
theorem dX7_isNoted_5 : decode cX7_isNoted 5 = .ok (.aload_n 0, 1) := by decide +kernel
theorem dX7_isNoted_6 : decode cX7_isNoted 6 = .ok (.getfield 40, 3) := by decide +kernel
theorem dX7_isNoted_9 : decode cX7_isNoted 9 = .ok (.if_icmp .ge 37, 3) := by decide +kernel
theorem dX7_isNoted_12 : decode cX7_isNoted 12 = .ok (.iload_n 2, 1) := by decide +kernel
theorem dX7_isNoted_13 : decode cX7_isNoted 13 = .ok (.ifCond .ne 21, 3) := by decide +kernel
theorem dX7_isNoted_16 : decode cX7_isNoted 16 = .ok (.aload_n 0, 1) := by decide +kernel
theorem dX7_isNoted_17 : decode cX7_isNoted 17 = .ok (.iload_n 3, 1) := by decide +kernel
theorem dX7_isNoted_18 : decode cX7_isNoted 18 = .ok (.invokevirtual 72, 3) := by decide +kernel
theorem dX7_isNoted_21 : decode cX7_isNoted 21 = .ok (.ifCond .ne 17, 3) := by decide +kernel
theorem dX7_isNoted_24 : decode cX7_isNoted 24 = .ok (.aload_n 0, 1) := by decide +kernel
theorem dX7_isNoted_25 : decode cX7_isNoted 25 = .ok (.getfield 27, 3) := by decide +kernel
theorem dX7_isNoted_28 : decode cX7_isNoted 28 = .ok (.iload_n 3, 1) := by decide +kernel
theorem dX7_isNoted_29 : decode cX7_isNoted 29 = .ok (.iaload, 1) := by decide +kernel
theorem dX7_isNoted_30 : decode cX7_isNoted 30 = .ok (.iload_n 1, 1) := by decide +kernel
theorem dX7_isNoted_31 : decode cX7_isNoted 31 = .ok (.if_icmp .ne 7, 3) := by decide +kernel
theorem dX7_isNoted_34 : decode cX7_isNoted 34 = .ok (.iconst 1, 1) := by decide +kernel
theorem dX7_isNoted_35 : decode cX7_isNoted 35 = .ok (.goto 4, 3) := by decide +kernel
theorem dX7_isNoted_38 : decode cX7_isNoted 38 = .ok (.iconst 0, 1) := by decide +kernel
theorem dX7_isNoted_39 : decode cX7_isNoted 39 = .ok (.istore_n 2, 1) := by decide +kernel
theorem dX7_isNoted_40 : decode cX7_isNoted 40 = .ok (.iinc 3 1, 3) := by decide +kernel
theorem dX7_isNoted_43 : decode cX7_isNoted 43 = .ok (.goto (-39), 3) := by decide +kernel
theorem dX7_isNoted_46 : decode cX7_isNoted 46 = .ok (.iload_n 2, 1) := by decide +kernel
theorem dX7_isNoted_47 : decode cX7_isNoted 47 = .ok (.ireturn, 1) := by decide +kernel
def VX7_isNoted_39 (d : Nat) (c4 : Nat → Int → Int → Int → MS → Prop) (Q : Out → MS → Prop) (x0 : Nat) (x1 : Int) (x3 : Int) (t0 : Int) (S : MS) : Prop :=
  c4 x0 x1 t0 (x3 + 1) S
theorem JX7_isNoted_39 {d : Nat} {c4 : Nat → Int → Int → Int → MS → Prop} {S0 : MS} {Q : Out → MS → Prop} (hc4 : ∀ (x0 : Nat) (x1 : Int) (x2 : Int) (x3 : Int) (S : MS), c4 x0 x1 x2 x3 S → Jw FinM RX7 cX7_isNoted 4 (some .boolean) [] yX7_isNoted (d + 1) S0 S 4 [(0, vA x0), (1, vI x1), (2, vI x2), (3, vI x3)] [] Q) (x0 : Nat) (x1 : Int) (x3 : Int) (t0 : Int) (S : MS) (h : VX7_isNoted_39 d c4 Q x0 x1 x3 t0 S) : Jw FinM RX7 cX7_isNoted 4 (some .boolean) [] yX7_isNoted (d + 1) S0 S 39 [(0, vA x0), (1, vI x1), (3, vI x3)] [vI t0] Q :=
  j_istore_n (lv2 := [(2, vI t0), (0, vA x0), (1, vI x1), (3, vI x3)]) dX7_isNoted_39 (by decide) rfl (j_iinc 3 (lv2 := [(3, vI (x3 + 1)), (2, vI t0), (0, vA x0), (1, vI x1)]) dX7_isNoted_40 rfl (by decide) rfl (j_goto (tgt := 4) dX7_isNoted_43 (by decide) (j_sub [2, 3, 1, 0] rfl (hc4 _ _ _ _ _ h))))
def VX7_isNoted_34 (d : Nat) (c4 : Nat → Int → Int → Int → MS → Prop) (Q : Out → MS → Prop) (x0 : Nat) (x1 : Int) (x3 : Int) (S : MS) : Prop :=
  VX7_isNoted_39 d c4 Q x0 x1 x3 1 S
theorem JX7_isNoted_34 {d : Nat} {c4 : Nat → Int → Int → Int → MS → Prop} {S0 : MS} {Q : Out → MS → Prop} (hc4 : ∀ (x0 : Nat) (x1 : Int) (x2 : Int) (x3 : Int) (S : MS), c4 x0 x1 x2 x3 S → Jw FinM RX7 cX7_isNoted 4 (some .boolean) [] yX7_isNoted (d + 1) S0 S 4 [(0, vA x0), (1, vI x1), (2, vI x2), (3, vI x3)] [] Q) (x0 : Nat) (x1 : Int) (x3 : Int) (S : MS) (h : VX7_isNoted_34 d c4 Q x0 x1 x3 S) : Jw FinM RX7 cX7_isNoted 4 (some .boolean) [] yX7_isNoted (d + 1) S0 S 34 [(0, vA x0), (1, vI x1), (3, vI x3)] [] Q :=
  j_iconst dX7_isNoted_34 (j_goto (tgt := 39) dX7_isNoted_35 (by decide) (JX7_isNoted_39 hc4 _ _ _ _ _ h))
def VX7_isNoted_38 (d : Nat) (c4 : Nat → Int → Int → Int → MS → Prop) (Q : Out → MS → Prop) (x0 : Nat) (x1 : Int) (x3 : Int) (S : MS) : Prop :=
  VX7_isNoted_39 d c4 Q x0 x1 x3 0 S
theorem JX7_isNoted_38 {d : Nat} {c4 : Nat → Int → Int → Int → MS → Prop} {S0 : MS} {Q : Out → MS → Prop} (hc4 : ∀ (x0 : Nat) (x1 : Int) (x2 : Int) (x3 : Int) (S : MS), c4 x0 x1 x2 x3 S → Jw FinM RX7 cX7_isNoted 4 (some .boolean) [] yX7_isNoted (d + 1) S0 S 4 [(0, vA x0), (1, vI x1), (2, vI x2), (3, vI x3)] [] Q) (x0 : Nat) (x1 : Int) (x3 : Int) (S : MS) (h : VX7_isNoted_38 d c4 Q x0 x1 x3 S) : Jw FinM RX7 cX7_isNoted 4 (some .boolean) [] yX7_isNoted (d + 1) S0 S 38 [(0, vA x0), (1, vI x1), (3, vI x3)] [] Q :=
  j_iconst dX7_isNoted_38 (JX7_isNoted_39 hc4 _ _ _ _ _ h)
def VX7_isNoted_4 (d : Nat) (Q : Out → MS → Prop) : Nat → Nat → Int → Int → Int → MS → Prop
  | 0, _, _, _, _, _ => False
  | n + 1, x0, x1, x2, x3, S => S.K x0 = 7 ∧ ((R32 x3 ∧ R32 (S.I x0 9)) ∧ (((S.I x0 9) ≤ x3) → B01 x2 ∧ Q (.inl (some (vI x2))) S) ∧ (¬ ((S.I x0 9) ≤ x3) → R32 x2 ∧ (¬ (x2 = 0) → VX7_isNoted_34 d (VX7_isNoted_4 d Q n) Q x0 x1 x3 S) ∧ ((x2 = 0) → S.K x0 = 7 ∧ Mw hX7_kindOfNote yX7_kindOfNote d [vA x0, vI x3] S (oI (fun r1 S1 => R32 r1 ∧ (¬ (r1 = 0) → VX7_isNoted_38 d (VX7_isNoted_4 d Q n) Q x0 x1 x3 S1) ∧ ((r1 = 0) → S1.K x0 = 7 ∧ ∃ b2, S1.R x0 5 = some b2 ∧ ((S1.K b2 = 13 ∧ 0 ≤ x3 ∧ x3 < S1.N b2) ∧ ((R32 (S1.I b2 (x3).toNat) ∧ R32 x1) ∧ (¬ ((S1.I b2 (x3).toNat) = x1) → VX7_isNoted_38 d (VX7_isNoted_4 d Q n) Q x0 x1 x3 S1) ∧ (((S1.I b2 (x3).toNat) = x1) → VX7_isNoted_34 d (VX7_isNoted_4 d Q n) Q x0 x1 x3 S1)))))))))
theorem JX7_isNoted_4 {d : Nat} {S0 : MS} {Q : Out → MS → Prop} : ∀ (n : Nat) (x0 : Nat) (x1 : Int) (x2 : Int) (x3 : Int) (S : MS), VX7_isNoted_4 d Q n x0 x1 x2 x3 S → Jw FinM RX7 cX7_isNoted 4 (some .boolean) [] yX7_isNoted (d + 1) S0 S 4 [(0, vA x0), (1, vI x1), (2, vI x2), (3, vI x3)] [] Q := by
  intro n
  induction n with
  | zero => intro x0 x1 x2 x3 S h; exact h.elim
  | succ n ih =>
    intro x0 x1 x2 x3 S h
    exact j_iload_n 3 dX7_isNoted_4 rfl (j_aload_n 0 dX7_isNoted_5 rfl (j_getI 7 9 f_RX7_40 dX7_isNoted_6 h (fun h => j_icmp_ge (tgt := 46) dX7_isNoted_9 (by decide) h (fun h => j_iload_n 2 dX7_isNoted_46 rfl (j_zret rfl dX7_isNoted_47 h)) (fun h => j_iload_n 2 dX7_isNoted_12 rfl (j_if_ne (tgt := 34) dX7_isNoted_13 (by decide) h (fun h => j_sub [0, 1, 3] rfl (JX7_isNoted_34 ih _ _ _ _ h)) (fun h => j_aload_n 0 dX7_isNoted_16 rfl (j_iload_n 3 dX7_isNoted_17 rfl (j_callV (rest := []) 7 [vI x3] k_RX7_72 ⟨w_2_215, w_2_216⟩ ⟨_, _, rfl⟩ (by decide) rfl rfl (Nat.le_of_ble_eq_true rfl) dX7_isNoted_18 h (kI (fun r1 S1 h => j_if_ne (tgt := 38) dX7_isNoted_21 (by decide) h (fun h => j_sub [0, 1, 3] rfl (JX7_isNoted_38 ih _ _ _ _ h)) (fun h => j_aload_n 0 dX7_isNoted_24 rfl (j_getR 7 5 f_RX7_27 dX7_isNoted_25 h (fun b2 h => j_iload_n 3 dX7_isNoted_28 rfl (j_iald dX7_isNoted_29 h (fun h => j_iload_n 1 dX7_isNoted_30 rfl (j_icmp_ne (tgt := 38) dX7_isNoted_31 (by decide) h (fun h => j_sub [0, 1, 3] rfl (JX7_isNoted_38 ih _ _ _ _ h)) (fun h => j_sub [0, 1, 3] rfl (JX7_isNoted_34 ih _ _ _ _ h)))))))))) (fun _ _ h => h.elim)))))))))
def VX7_isNoted_0 (d : Nat) (Q : Out → MS → Prop) (x0 : Nat) (x1 : Int) (S : MS) : Prop :=
  ∃ m, VX7_isNoted_4 d Q m x0 x1 0 0 S
theorem JX7_isNoted_0 {d : Nat} {S0 : MS} {Q : Out → MS → Prop} (x0 : Nat) (x1 : Int) (S : MS) (h : VX7_isNoted_0 d Q x0 x1 S) : Jw FinM RX7 cX7_isNoted 4 (some .boolean) [] yX7_isNoted (d + 1) S0 S 0 [(0, vA x0), (1, vI x1)] [] Q :=
  j_iconst dX7_isNoted_0 (j_istore_n (lv2 := [(2, vI 0), (0, vA x0), (1, vI x1)]) dX7_isNoted_1 (by decide) rfl (j_iconst dX7_isNoted_2 (j_istore_n (lv2 := [(3, vI 0), (2, vI 0), (0, vA x0), (1, vI x1)]) dX7_isNoted_3 (by decide) rfl (Exists.elim h (fun m h => j_sub [2, 3, 1, 0] rfl (JX7_isNoted_4 m _ _ _ _ _ h))))))
theorem MX7_isNoted {d : Nat} {x0 : Nat} {x1 : Int} {S : MS} {Q : Out → MS → Prop} (h : VX7_isNoted_0 d Q x0 x1 S) : Mw hX7_isNoted yX7_isNoted (d + 1) [vA x0, vI x1] S Q := Mw.ofJ (by decide) (Nat.le_of_ble_eq_true rfl) (JX7_isNoted_0 _ _ S h)
