theorem dX0_init_0 : decode cX0_init 0 = .ok (.aload_n 0, 1) := by decide +kernel
theorem dX0_init_1 : decode cX0_init 1 = .ok (.invokespecial 3, 3) := by decide +kernel
theorem dX0_init_4 : decode cX0_init 4 = .ok (.aload_n 0, 1) := by decide +kernel
theorem dX0_init_5 : decode cX0_init 5 = .ok (.iconst 3, 1) := by decide +kernel
theorem dX0_init_6 : decode cX0_init 6 = .ok (.anewarray 9, 3) := by decide +kernel
theorem dX0_init_9 : decode cX0_init 9 = .ok (.putfield 11, 3) := by decide +kernel
theorem dX0_init_12 : decode cX0_init 12 = .ok (.iconst 1, 1) := by decide +kernel
theorem dX0_init_13 : decode cX0_init 13 = .ok (.istore_n 2, 1) := by decide +kernel
theorem dX0_init_14 : decode cX0_init 14 = .ok (.iconst 2, 1) := by decide +kernel
theorem dX0_init_15 : decode cX0_init 15 = .ok (.istore_n 3, 1) := by decide +kernel
theorem dX0_init_16 : decode cX0_init 16 = .ok (.iload_n 3, 1) := by decide +kernel
theorem dX0_init_17 : decode cX0_init 17 = .ok (.iload_n 1, 1) := by decide +kernel
theorem dX0_init_18 : decode cX0_init 18 = .ok (.if_icmp .gt 13, 3) := by decide +kernel
theorem dX0_init_21 : decode cX0_init 21 = .ok (.iload_n 2, 1) := by decide +kernel
theorem dX0_init_22 : decode cX0_init 22 = .ok (.iload_n 3, 1) := by decide +kernel
theorem dX0_init_23 : decode cX0_init 23 = .ok (.imul, 1) := by decide +kernel
theorem dX0_init_24 : decode cX0_init 24 = .ok (.istore_n 2, 1) := by decide +kernel
theorem dX0_init_25 : decode cX0_init 25 = .ok (.iinc 3 1, 3) := by decide +kernel
theorem dX0_init_28 : decode cX0_init 28 = .ok (.goto (-12), 3) := by decide +kernel
theorem dX0_init_31 : decode cX0_init 31 = .ok (.aload_n 0, 1) := by decide +kernel
theorem dX0_init_32 : decode cX0_init 32 = .ok (.iload_n 1, 1) := by decide +kernel
theorem dX0_init_33 : decode cX0_init 33 = .ok (.putfield 17, 3) := by decide +kernel
theorem dX0_init_36 : decode cX0_init 36 = .ok (.aload_n 0, 1) := by decide +kernel
theorem dX0_init_37 : decode cX0_init 37 = .ok (.iload_n 2, 1) := by decide +kernel
theorem dX0_init_38 : decode cX0_init 38 = .ok (.putfield 21, 3) := by decide +kernel
theorem dX0_init_41 : decode cX0_init 41 = .ok (.aload_n 0, 1) := by decide +kernel
theorem dX0_init_42 : decode cX0_init 42 = .ok (.iload_n 2, 1) := by decide +kernel
theorem dX0_init_43 : decode cX0_init 43 = .ok (.bipush 63, 2) := by decide +kernel
theorem dX0_init_45 : decode cX0_init 45 = .ok (.iadd, 1) := by decide +kernel
theorem dX0_init_46 : decode cX0_init 46 = .ok (.bipush 64, 2) := by decide +kernel
theorem dX0_init_48 : decode cX0_init 48 = .ok (.idiv, 1) := by decide +kernel
theorem dX0_init_49 : decode cX0_init 49 = .ok (.putfield 24, 3) := by decide +kernel
theorem dX0_init_52 : decode cX0_init 52 = .ok (.aload_n 0, 1) := by decide +kernel
theorem dX0_init_53 : decode cX0_init 53 = .ok (.aload_n 0, 1) := by decide +kernel
theorem dX0_init_54 : decode cX0_init 54 = .ok (.getfield 24, 3) := by decide +kernel
theorem dX0_init_57 : decode cX0_init 57 = .ok (.newarray .long, 2) := by decide +kernel
theorem dX0_init_59 : decode cX0_init 59 = .ok (.putfield 27, 3) := by decide +kernel
theorem dX0_init_62 : decode cX0_init 62 = .ok (.aload_n 0, 1) := by decide +kernel
theorem dX0_init_63 : decode cX0_init 63 = .ok (.aload_n 0, 1) := by decide +kernel
theorem dX0_init_64 : decode cX0_init 64 = .ok (.getfield 21, 3) := by decide +kernel
theorem dX0_init_67 : decode cX0_init 67 = .ok (.newarray .int, 2) := by decide +kernel
theorem dX0_init_69 : decode cX0_init 69 = .ok (.putfield 31, 3) := by decide +kernel
theorem dX0_init_72 : decode cX0_init 72 = .ok (.aload_n 0, 1) := by decide +kernel
theorem dX0_init_73 : decode cX0_init 73 = .ok (.aload_n 0, 1) := by decide +kernel
theorem dX0_init_74 : decode cX0_init 74 = .ok (.getfield 21, 3) := by decide +kernel
theorem dX0_init_77 : decode cX0_init 77 = .ok (.newarray .int, 2) := by decide +kernel
theorem dX0_init_79 : decode cX0_init 79 = .ok (.putfield 35, 3) := by decide +kernel
theorem dX0_init_82 : decode cX0_init 82 = .ok (.aload_n 0, 1) := by decide +kernel
theorem dX0_init_83 : decode cX0_init 83 = .ok (.iload_n 1, 1) := by decide +kernel
theorem dX0_init_84 : decode cX0_init 84 = .ok (.iload_n 1, 1) := by decide +kernel
theorem dX0_init_85 : decode cX0_init 85 = .ok (.imul, 1) := by decide +kernel
theorem dX0_init_86 : decode cX0_init 86 = .ok (.aload_n 0, 1) := by decide +kernel
theorem dX0_init_87 : decode cX0_init 87 = .ok (.getfield 24, 3) := by decide +kernel
theorem dX0_init_90 : decode cX0_init 90 = .ok (.multianewarray 38 2, 4) := by decide +kernel
theorem dX0_init_94 : decode cX0_init 94 = .ok (.putfield 40, 3) := by decide +kernel
theorem dX0_init_97 : decode cX0_init 97 = .ok (.aload_n 0, 1) := by decide +kernel
theorem dX0_init_98 : decode cX0_init 98 = .ok (.iload_n 1, 1) := by decide +kernel
theorem dX0_init_99 : decode cX0_init 99 = .ok (.iload_n 1, 1) := by decide +kernel
theorem dX0_init_100 : decode cX0_init 100 = .ok (.imul, 1) := by decide +kernel
theorem dX0_init_101 : decode cX0_init 101 = .ok (.aload_n 0, 1) := by decide +kernel
theorem dX0_init_102 : decode cX0_init 102 = .ok (.getfield 24, 3) := by decide +kernel
theorem dX0_init_105 : decode cX0_init 105 = .ok (.multianewarray 38 2, 4) := by decide +kernel
theorem dX0_init_109 : decode cX0_init 109 = .ok (.putfield 43, 3) := by decide +kernel
theorem dX0_init_112 : decode cX0_init 112 = .ok (.iconst 0, 1) := by decide +kernel
theorem dX0_init_113 : decode cX0_init 113 = .ok (.istore_n 3, 1) := by decide +kernel
theorem dX0_init_114 : decode cX0_init 114 = .ok (.iload_n 3, 1) := by decide +kernel
theorem dX0_init_115 : decode cX0_init 115 = .ok (.iconst 3, 1) := by decide +kernel
theorem dX0_init_116 : decode cX0_init 116 = .ok (.if_icmp .ge 28, 3) := by decide +kernel
theorem dX0_init_119 : decode cX0_init 119 = .ok (.aload_n 0, 1) := by decide +kernel
theorem dX0_init_120 : decode cX0_init 120 = .ok (.getfield 11, 3) := by decide +kernel
theorem dX0_init_123 : decode cX0_init 123 = .ok (.iload_n 3, 1) := by decide +kernel
theorem dX0_init_124 : decode cX0_init 124 = .ok (.new 9, 3) := by decide +kernel
theorem dX0_init_127 : decode cX0_init 127 = .ok (.dup, 1) := by decide +kernel
theorem dX0_init_128 : decode cX0_init 128 = .ok (.iload_n 1, 1) := by decide +kernel
theorem dX0_init_129 : decode cX0_init 129 = .ok (.iload_n 3, 1) := by decide +kernel
theorem dX0_init_130 : decode cX0_init 130 = .ok (.aload_n 0, 1) := by decide +kernel
theorem dX0_init_131 : decode cX0_init 131 = .ok (.getfield 24, 3) := by decide +kernel
theorem dX0_init_134 : decode cX0_init 134 = .ok (.invokespecial 46, 3) := by decide +kernel
theorem dX0_init_137 : decode cX0_init 137 = .ok (.aastore, 1) := by decide +kernel
theorem dX0_init_138 : decode cX0_init 138 = .ok (.iinc 3 1, 3) := by decide +kernel
theorem dX0_init_141 : decode cX0_init 141 = .ok (.goto (-27), 3) := by decide +kernel
theorem dX0_init_144 : decode cX0_init 144 = .ok (.return_, 1) := by decide +kernel
def VX0_init_114 (d : Nat) (Q : Out → MS → Prop) : Nat → Nat → Int → Int → MS → Prop
  | 0, _, _, _, _ => False
  | n + 1, x0, x1, x3, S => (R32 x3 ∧ R32 (3 : Int)) ∧ (((3 : Int) ≤ x3) → Q (.inl none) S) ∧ (¬ ((3 : Int) ≤ x3) → S.K x0 = 0 ∧ ∃ b1, S.R x0 8 = some b1 ∧ ((S.mk 2 9).K x0 = 0 ∧ (Mw hX2_init yX2_init d [vA S.nx, vI x1, vI x3, vI ((S.mk 2 9).I x0 2)] (S.mk 2 9) (oV (fun S2 => (S2.K b1 = 18 ∧ S2.K S.nx = 2 ∧ 0 ≤ x3 ∧ x3 < S2.N b1) ∧ ((VX0_init_114 d Q n) x0 x1 (x3 + 1) (S2.setR b1 (x3).toNat (some S.nx))))))))
theorem JX0_init_114 {d : Nat} {S0 : MS} {Q : Out → MS → Prop} : ∀ (n : Nat) (x0 : Nat) (x1 : Int) (x3 : Int) (S : MS), VX0_init_114 d Q n x0 x1 x3 S → Jw FinM RX0 cX0_init 4 none [] yX0_init (d + 1) S0 S 114 [(0, vA x0), (1, vI x1), (3, vI x3)] [] Q := by
  intro n
  induction n with
  | zero => intro x0 x1 x3 S h; exact h.elim
  | succ n ih =>
    intro x0 x1 x3 S h
    exact j_iload_n 2 dX0_init_114 rfl (j_iconst dX0_init_115 (j_icmp_ge (tgt := 144) dX0_init_116 (by decide) h (fun h => j_vret rfl dX0_init_144 h) (fun h => j_aload_n 0 dX0_init_119 rfl (j_getR 0 8 f_RX0_11 dX0_init_120 h (fun b1 h => j_iload_n 2 dX0_init_123 rfl (j_new 2 n_RX0_9 dX0_init_124 (j_dup rfl dX0_init_127 (j_iload_n 1 dX0_init_128 rfl (j_iload_n 2 dX0_init_129 rfl (j_aload_n 0 dX0_init_130 rfl (j_getI 0 2 f_RX0_24 dX0_init_131 h (fun h => j_callI (rest := [vA S.nx, vI x3, vA b1]) [vI x1, vI x3, vI ((S.mk 2 9).I x0 2)] k_RX0_46 rfl w_2_79 rfl rfl (Nat.le_of_ble_eq_true rfl) dX0_init_134 h (kV (fun S2 h => j_aast 18 2 ⟨_, _, _, rfl, rfl⟩ (by decide) (by decide) dX0_init_137 h (fun h => j_iinc 2 (lv2 := [(3, vI (x3 + 1)), (0, vA x0), (1, vI x1)]) dX0_init_138 rfl (by decide) rfl (j_goto (tgt := 114) dX0_init_141 (by decide) (j_sub [1, 2, 0] rfl (ih _ _ _ _ h))))))))))))))))))
def VX0_init_16 (d : Nat) (Q : Out → MS → Prop) : Nat → Nat → Int → Int → Int → MS → Prop
  | 0, _, _, _, _, _ => False
  | n + 1, x0, x1, x2, x3, S => (R32 x3 ∧ R32 x1) ∧ ((x1 < x3) → S.K x0 = 0 ∧ ((S.setI x0 0 x1).K x0 = 0 ∧ ((R32 (64 : Int) ∧ (64 : Int) ≠ 0) ∧ (((S.setI x0 0 x1).setI x0 1 x2).K x0 = 0 ∧ ((((S.setI x0 0 x1).setI x0 1 x2).setI x0 2 (iDiv (x2 + 63) 64)).K x0 = 0 ∧ ((0 ≤ ((((S.setI x0 0 x1).setI x0 1 x2).setI x0 2 (iDiv (x2 + 63) 64)).I x0 2) ∧ ((((S.setI x0 0 x1).setI x0 1 x2).setI x0 2 (iDiv (x2 + 63) 64)).I x0 2) < 1000000) ∧ (∀ S1 : MS, S1 = (((S.setI x0 0 x1).setI x0 1 x2).setI x0 2 (iDiv (x2 + 63) 64)).mk 14 (((((S.setI x0 0 x1).setI x0 1 x2).setI x0 2 (iDiv (x2 + 63) 64)).I x0 2)).toNat → S1.K x0 = 0 ∧ ((S1.setR x0 3 (some ((((S.setI x0 0 x1).setI x0 1 x2).setI x0 2 (iDiv (x2 + 63) 64)).nx))).K x0 = 0 ∧ ((0 ≤ ((S1.setR x0 3 (some ((((S.setI x0 0 x1).setI x0 1 x2).setI x0 2 (iDiv (x2 + 63) 64)).nx))).I x0 1) ∧ ((S1.setR x0 3 (some ((((S.setI x0 0 x1).setI x0 1 x2).setI x0 2 (iDiv (x2 + 63) 64)).nx))).I x0 1) < 1000000) ∧ (∀ S2 : MS, S2 = (S1.setR x0 3 (some ((((S.setI x0 0 x1).setI x0 1 x2).setI x0 2 (iDiv (x2 + 63) 64)).nx))).mk 13 (((S1.setR x0 3 (some ((((S.setI x0 0 x1).setI x0 1 x2).setI x0 2 (iDiv (x2 + 63) 64)).nx))).I x0 1)).toNat → S2.K x0 = 0 ∧ (∀ S3 : MS, S3 = S2.setR x0 4 (some ((S1.setR x0 3 (some ((((S.setI x0 0 x1).setI x0 1 x2).setI x0 2 (iDiv (x2 + 63) 64)).nx))).nx)) → S3.K x0 = 0 ∧ ((0 ≤ (S3.I x0 1) ∧ (S3.I x0 1) < 1000000) ∧ ((S3.mk 13 ((S3.I x0 1)).toNat).K x0 = 0 ∧ (((S3.mk 13 ((S3.I x0 1)).toNat).setR x0 5 (some S3.nx)).K x0 = 0 ∧ (((0 ≤ (x1 * x1) ∧ (x1 * x1) < 100000) ∧ 0 ≤ (((S3.mk 13 ((S3.I x0 1)).toNat).setR x0 5 (some S3.nx)).I x0 2) ∧ (((S3.mk 13 ((S3.I x0 1)).toNat).setR x0 5 (some S3.nx)).I x0 2) < 100000) ∧ (∀ S4 : MS, S4 = ((S3.mk 13 ((S3.I x0 1)).toNat).setR x0 5 (some S3.nx)).mk2 ((x1 * x1)).toNat ((((S3.mk 13 ((S3.I x0 1)).toNat).setR x0 5 (some S3.nx)).I x0 2)).toNat → S4.K x0 = 0 ∧ ((S4.setR x0 6 (some (((S3.mk 13 ((S3.I x0 1)).toNat).setR x0 5 (some S3.nx)).nx))).K x0 = 0 ∧ (((0 ≤ (x1 * x1) ∧ (x1 * x1) < 100000) ∧ 0 ≤ ((S4.setR x0 6 (some (((S3.mk 13 ((S3.I x0 1)).toNat).setR x0 5 (some S3.nx)).nx))).I x0 2) ∧ ((S4.setR x0 6 (some (((S3.mk 13 ((S3.I x0 1)).toNat).setR x0 5 (some S3.nx)).nx))).I x0 2) < 100000) ∧ (∀ S5 : MS, S5 = (S4.setR x0 6 (some (((S3.mk 13 ((S3.I x0 1)).toNat).setR x0 5 (some S3.nx)).nx))).mk2 ((x1 * x1)).toNat (((S4.setR x0 6 (some (((S3.mk 13 ((S3.I x0 1)).toNat).setR x0 5 (some S3.nx)).nx))).I x0 2)).toNat → S5.K x0 = 0 ∧ (∀ S6 : MS, S6 = S5.setR x0 7 (some ((S4.setR x0 6 (some (((S3.mk 13 ((S3.I x0 1)).toNat).setR x0 5 (some S3.nx)).nx))).nx)) → ∃ m, VX0_init_114 d Q m x0 x1 0 S6)))))))))))))))))))) ∧ (¬ (x1 < x3) → (VX0_init_16 d Q n) x0 x1 (x2 * x3) (x3 + 1) S)
theorem JX0_init_16 {d : Nat} {S0 : MS} {Q : Out → MS → Prop} : ∀ (n : Nat) (x0 : Nat) (x1 : Int) (x2 : Int) (x3 : Int) (S : MS), VX0_init_16 d Q n x0 x1 x2 x3 S → Jw FinM RX0 cX0_init 4 none [] yX0_init (d + 1) S0 S 16 [(0, vA x0), (1, vI x1), (2, vI x2), (3, vI x3)] [] Q := by
  intro n
  induction n with
  | zero => intro x0 x1 x2 x3 S h; exact h.elim
  | succ n ih =>
    intro x0 x1 x2 x3 S h
    exact j_iload_n 3 dX0_init_16 rfl (j_iload_n 1 dX0_init_17 rfl (j_icmp_gt (tgt := 31) dX0_init_18 (by decide) h (fun h => j_aload_n 0 dX0_init_31 rfl (j_iload_n 1 dX0_init_32 rfl (j_putFI 0 0 f_RX0_17 (by intro q h; cases h; rfl) rfl dX0_init_33 h (fun h => j_aload_n 0 dX0_init_36 rfl (j_iload_n 2 dX0_init_37 rfl (j_putFI 0 1 f_RX0_21 (by intro q h; cases h; rfl) rfl dX0_init_38 h (fun h => j_aload_n 0 dX0_init_41 rfl (j_iload_n 2 dX0_init_42 rfl (j_bipush dX0_init_43 rfl (j_iadd dX0_init_45 (j_bipush dX0_init_46 rfl (j_idiv dX0_init_48 h (fun h => j_putFI 0 2 f_RX0_24 (by intro q h; cases h; rfl) rfl dX0_init_49 h (fun h => j_aload_n 0 dX0_init_52 rfl (j_aload_n 0 dX0_init_53 rfl (j_getI 0 2 f_RX0_24 dX0_init_54 h (fun h => j_newb 14 dX0_init_57 rfl (by decide) w_1_158 h (fun h => j_bind h (fun S1 h => j_putFR 0 3 f_RX0_27 (by intro q h; cases h; rfl) rfl (fun b => ⟨rfl, rfl⟩) dX0_init_59 h (fun h => j_aload_n 0 dX0_init_62 rfl (j_aload_n 0 dX0_init_63 rfl (j_getI 0 1 f_RX0_21 dX0_init_64 h (fun h => j_newb 13 dX0_init_67 rfl (by decide) w_1_58 h (fun h => j_bind h (fun S2 h => j_putFR 0 4 f_RX0_31 (by intro q h; cases h; rfl) rfl (fun b => ⟨rfl, rfl⟩) dX0_init_69 h (fun h => j_bind h (fun S3 h => j_aload_n 0 dX0_init_72 rfl (j_aload_n 0 dX0_init_73 rfl (j_getI 0 1 f_RX0_21 dX0_init_74 h (fun h => j_newb 13 dX0_init_77 rfl (by decide) w_1_58 h (fun h => j_putFR 0 5 f_RX0_35 (by intro q h; cases h; rfl) rfl (fun b => ⟨rfl, rfl⟩) dX0_init_79 h (fun h => j_aload_n 0 dX0_init_82 rfl (j_iload_n 1 dX0_init_83 rfl (j_iload_n 1 dX0_init_84 rfl (j_imul dX0_init_85 (j_aload_n 0 dX0_init_86 rfl (j_getI 0 2 f_RX0_24 dX0_init_87 h (fun h => j_mna w_2_76 w_1_158 dX0_init_90 h (fun h => j_bind h (fun S4 h => j_putFR 0 6 f_RX0_40 (by intro q h; cases h; rfl) rfl (fun b => ⟨rfl, rfl⟩) dX0_init_94 h (fun h => j_aload_n 0 dX0_init_97 rfl (j_iload_n 1 dX0_init_98 rfl (j_iload_n 1 dX0_init_99 rfl (j_imul dX0_init_100 (j_aload_n 0 dX0_init_101 rfl (j_getI 0 2 f_RX0_24 dX0_init_102 h (fun h => j_mna w_2_76 w_1_158 dX0_init_105 h (fun h => j_bind h (fun S5 h => j_putFR 0 7 f_RX0_43 (by intro q h; cases h; rfl) rfl (fun b => ⟨rfl, rfl⟩) dX0_init_109 h (fun h => j_bind h (fun S6 h => j_iconst dX0_init_112 (j_istore_n (lv2 := [(3, vI 0), (0, vA x0), (1, vI x1), (2, vI x2)]) dX0_init_113 (by decide) rfl (Exists.elim h (fun m h => j_sub [1, 2, 0] rfl (JX0_init_114 m _ _ _ _ h))))))))))))))))))))))))))))))))))))))))))))))))))))))) (fun h => j_iload_n 2 dX0_init_21 rfl (j_iload_n 3 dX0_init_22 rfl (j_imul dX0_init_23 (j_istore_n (lv2 := [(2, vI (x2 * x3)), (0, vA x0), (1, vI x1), (3, vI x3)]) dX0_init_24 (by decide) rfl (j_iinc 3 (lv2 := [(3, vI (x3 + 1)), (2, vI (x2 * x3)), (0, vA x0), (1, vI x1)]) dX0_init_25 rfl (by decide) rfl (j_goto (tgt := 16) dX0_init_28 (by decide) (j_sub [2, 3, 1, 0] rfl (ih _ _ _ _ _ h))))))))))
def VX0_init_0 (d : Nat) (Q : Out → MS → Prop) (x0 : Nat) (x1 : Int) (S : MS) : Prop :=
  (0 ≤ (3 : Int) ∧ (3 : Int) < 1000000) ∧ ((S.mk 18 ((3 : Int)).toNat).K x0 = 0 ∧ (∃ m, VX0_init_16 d Q m x0 x1 1 2 ((S.mk 18 ((3 : Int)).toNat).setR x0 8 (some S.nx))))
theorem JX0_init_0 {d : Nat} {S0 : MS} {Q : Out → MS → Prop} (x0 : Nat) (x1 : Int) (S : MS) (h : VX0_init_0 d Q x0 x1 S) : Jw FinM RX0 cX0_init 4 none [] yX0_init (d + 1) S0 S 0 [(0, vA x0), (1, vI x1)] [] Q :=
  j_aload_n 0 dX0_init_0 rfl (j_objInit w_2_73 dX0_init_1 (Nat.le_of_ble_eq_true rfl) w_1_36 w_objInit (j_aload_n 0 dX0_init_4 rfl (j_iconst dX0_init_5 (j_anew 18 rfl (by decide) (List.mem_of_getElem? (i := 1) rfl) w_2_74 dX0_init_6 h (fun h => j_putFR 0 8 f_RX0_11 (by intro q h; cases h; rfl) rfl (fun b => ⟨rfl, rfl⟩) dX0_init_9 h (fun h => j_iconst dX0_init_12 (j_istore_n (lv2 := [(2, vI 1), (0, vA x0), (1, vI x1)]) dX0_init_13 (by decide) rfl (j_iconst dX0_init_14 (j_istore_n (lv2 := [(3, vI 2), (2, vI 1), (0, vA x0), (1, vI x1)]) dX0_init_15 (by decide) rfl (Exists.elim h (fun m h => j_sub [2, 3, 1, 0] rfl (JX0_init_16 m _ _ _ _ _ h))))))))))))
theorem MX0_init {d : Nat} {x0 : Nat} {x1 : Int} {S : MS} {Q : Out → MS → Prop} (h : VX0_init_0 d Q x0 x1 S) : Mw hX0_init yX0_init (d + 1) [vA x0, vI x1] S Q := Mw.ofJ (by decide) (Nat.le_of_ble_eq_true rfl) (JX0_init_0 _ _ S h)
theorem dX0_fill_0 : decode cX0_fill 0 = .ok (.aload_n 0, 1) := by decide +kernel
theorem dX0_fill_1 : decode cX0_fill 1 = .ok (.getfield 17, 3) := by decide +kernel
theorem dX0_fill_4 : decode cX0_fill 4 = .ok (.newarray .int, 2) := by decide +kernel
theorem dX0_fill_6 : decode cX0_fill 6 = .ok (.astore_n 1, 1) := by decide +kernel
theorem dX0_fill_7 : decode cX0_fill 7 = .ok (.iconst 0, 1) := by decide +kernel
theorem dX0_fill_8 : decode cX0_fill 8 = .ok (.istore_n 2, 1) := by decide +kernel
theorem dX0_fill_9 : decode cX0_fill 9 = .ok (.iload_n 2, 1) := by decide +kernel
theorem dX0_fill_10 : decode cX0_fill 10 = .ok (.aload_n 0, 1) := by decide +kernel
theorem dX0_fill_11 : decode cX0_fill 11 = .ok (.getfield 17, 3) := by decide +kernel
theorem dX0_fill_14 : decode cX0_fill 14 = .ok (.if_icmp .ge 13, 3) := by decide +kernel
theorem dX0_fill_17 : decode cX0_fill 17 = .ok (.aload_n 1, 1) := by decide +kernel
theorem dX0_fill_18 : decode cX0_fill 18 = .ok (.iload_n 2, 1) := by decide +kernel
theorem dX0_fill_19 : decode cX0_fill 19 = .ok (.iload_n 2, 1) := by decide +kernel
theorem dX0_fill_20 : decode cX0_fill 20 = .ok (.iastore, 1) := by decide +kernel
theorem dX0_fill_21 : decode cX0_fill 21 = .ok (.iinc 2 1, 3) := by decide +kernel
theorem dX0_fill_24 : decode cX0_fill 24 = .ok (.goto (-15), 3) := by decide +kernel
theorem dX0_fill_27 : decode cX0_fill 27 = .ok (.iconst 0, 1) := by decide +kernel
theorem dX0_fill_28 : decode cX0_fill 28 = .ok (.istore_n 2, 1) := by decide +kernel
theorem dX0_fill_29 : decode cX0_fill 29 = .ok (.iload_n 2, 1) := by decide +kernel
theorem dX0_fill_30 : decode cX0_fill 30 = .ok (.aload_n 0, 1) := by decide +kernel
theorem dX0_fill_31 : decode cX0_fill 31 = .ok (.getfield 21, 3) := by decide +kernel
theorem dX0_fill_34 : decode cX0_fill 34 = .ok (.if_icmp .ge 20, 3) := by decide +kernel
theorem dX0_fill_37 : decode cX0_fill 37 = .ok (.aload_n 0, 1) := by decide +kernel
theorem dX0_fill_38 : decode cX0_fill 38 = .ok (.iload_n 2, 1) := by decide +kernel
theorem dX0_fill_39 : decode cX0_fill 39 = .ok (.aload_n 1, 1) := by decide +kernel
theorem dX0_fill_40 : decode cX0_fill 40 = .ok (.invokevirtual 49, 3) := by decide +kernel
theorem dX0_fill_43 : decode cX0_fill 43 = .ok (.aload_n 0, 1) := by decide +kernel
theorem dX0_fill_44 : decode cX0_fill 44 = .ok (.aload_n 1, 1) := by decide +kernel
theorem dX0_fill_45 : decode cX0_fill 45 = .ok (.invokevirtual 53, 3) := by decide +kernel
theorem dX0_fill_48 : decode cX0_fill 48 = .ok (.iinc 2 1, 3) := by decide +kernel
theorem dX0_fill_51 : decode cX0_fill 51 = .ok (.goto (-22), 3) := by decide +kernel
theorem dX0_fill_54 : decode cX0_fill 54 = .ok (.iconst 0, 1) := by decide +kernel
theorem dX0_fill_55 : decode cX0_fill 55 = .ok (.istore_n 2, 1) := by decide +kernel
theorem dX0_fill_56 : decode cX0_fill 56 = .ok (.iload_n 2, 1) := by decide +kernel
theorem dX0_fill_57 : decode cX0_fill 57 = .ok (.aload_n 0, 1) := by decide +kernel
theorem dX0_fill_58 : decode cX0_fill 58 = .ok (.getfield 17, 3) := by decide +kernel
theorem dX0_fill_61 : decode cX0_fill 61 = .ok (.if_icmp .ge 31, 3) := by decide +kernel
theorem dX0_fill_64 : decode cX0_fill 64 = .ok (.iconst 0, 1) := by decide +kernel
theorem dX0_fill_65 : decode cX0_fill 65 = .ok (.istore_n 3, 1) := by decide +kernel
theorem dX0_fill_66 : decode cX0_fill 66 = .ok (.iload_n 3, 1) := by decide +kernel
theorem dX0_fill_67 : decode cX0_fill 67 = .ok (.aload_n 0, 1) := by decide +kernel
theorem dX0_fill_68 : decode cX0_fill 68 = .ok (.getfield 17, 3) := by decide +kernel
theorem dX0_fill_71 : decode cX0_fill 71 = .ok (.if_icmp .ge 15, 3) := by decide +kernel
theorem dX0_fill_74 : decode cX0_fill 74 = .ok (.aload_n 0, 1) := by decide +kernel
theorem dX0_fill_75 : decode cX0_fill 75 = .ok (.iload_n 2, 1) := by decide +kernel
theorem dX0_fill_76 : decode cX0_fill 76 = .ok (.iload_n 3, 1) := by decide +kernel
theorem dX0_fill_77 : decode cX0_fill 77 = .ok (.invokevirtual 57, 3) := by decide +kernel
theorem dX0_fill_80 : decode cX0_fill 80 = .ok (.iinc 3 1, 3) := by decide +kernel
theorem dX0_fill_83 : decode cX0_fill 83 = .ok (.goto (-17), 3) := by decide +kernel
theorem dX0_fill_86 : decode cX0_fill 86 = .ok (.iinc 2 1, 3) := by decide +kernel
theorem dX0_fill_89 : decode cX0_fill 89 = .ok (.goto (-33), 3) := by decide +kernel
theorem dX0_fill_92 : decode cX0_fill 92 = .ok (.iconst 0, 1) := by decide +kernel
theorem dX0_fill_93 : decode cX0_fill 93 = .ok (.istore_n 2, 1) := by decide +kernel
theorem dX0_fill_94 : decode cX0_fill 94 = .ok (.iload_n 2, 1) := by decide +kernel
theorem dX0_fill_95 : decode cX0_fill 95 = .ok (.iconst 3, 1) := by decide +kernel
theorem dX0_fill_96 : decode cX0_fill 96 = .ok (.if_icmp .ge 28, 3) := by decide +kernel
theorem dX0_fill_99 : decode cX0_fill 99 = .ok (.aload_n 0, 1) := by decide +kernel
theorem dX0_fill_100 : decode cX0_fill 100 = .ok (.getfield 11, 3) := by decide +kernel
theorem dX0_fill_103 : decode cX0_fill 103 = .ok (.iload_n 2, 1) := by decide +kernel
theorem dX0_fill_104 : decode cX0_fill 104 = .ok (.aaload, 1) := by decide +kernel
theorem dX0_fill_105 : decode cX0_fill 105 = .ok (.invokevirtual 61, 3) := by decide +kernel
theorem dX0_fill_108 : decode cX0_fill 108 = .ok (.aload_n 0, 1) := by decide +kernel
theorem dX0_fill_109 : decode cX0_fill 109 = .ok (.getfield 11, 3) := by decide +kernel
theorem dX0_fill_112 : decode cX0_fill 112 = .ok (.iload_n 2, 1) := by decide +kernel
theorem dX0_fill_113 : decode cX0_fill 113 = .ok (.aaload, 1) := by decide +kernel
theorem dX0_fill_114 : decode cX0_fill 114 = .ok (.aload_n 0, 1) := by decide +kernel
theorem dX0_fill_115 : decode cX0_fill 115 = .ok (.invokevirtual 64, 3) := by decide +kernel
theorem dX0_fill_118 : decode cX0_fill 118 = .ok (.iinc 2 1, 3) := by decide +kernel
theorem dX0_fill_121 : decode cX0_fill 121 = .ok (.goto (-27), 3) := by decide +kernel
theorem dX0_fill_124 : decode cX0_fill 124 = .ok (.return_, 1) := by decide +kernel
def VX0_fill_66 (d : Nat) (c56 : Nat → Int → MS → Prop) (Q : Out → MS → Prop) : Nat → Nat → Int → Int → MS → Prop
  | 0, _, _, _, _ => False
  | n + 1, x0, x2, x3, S => S.K x0 = 0 ∧ ((R32 x3 ∧ R32 (S.I x0 0)) ∧ (((S.I x0 0) ≤ x3) → c56 x0 (x2 + 1) S) ∧ (¬ ((S.I x0 0) ≤ x3) → S.K x0 = 0 ∧ Mw hX0_fillHeavier yX0_fillHeavier d [vA x0, vI x2, vI x3] S (oV (fun S1 => (VX0_fill_66 d c56 Q n) x0 x2 (x3 + 1) S1))))
theorem JX0_fill_66 {d : Nat} {c56 : Nat → Int → MS → Prop} {S0 : MS} {Q : Out → MS → Prop} (hc56 : ∀ (x0 : Nat) (x2 : Int) (S : MS), c56 x0 x2 S → Jw FinM RX0 cX0_fill 4 none [] yX0_fill (d + 1) S0 S 56 [(0, vA x0), (2, vI x2)] [] Q) : ∀ (n : Nat) (x0 : Nat) (x2 : Int) (x3 : Int) (S : MS), VX0_fill_66 d c56 Q n x0 x2 x3 S → Jw FinM RX0 cX0_fill 4 none [] yX0_fill (d + 1) S0 S 66 [(0, vA x0), (2, vI x2), (3, vI x3)] [] Q := by
  intro n
  induction n with
  | zero => intro x0 x2 x3 S h; exact h.elim
  | succ n ih =>
    intro x0 x2 x3 S h
    exact j_iload_n 2 dX0_fill_66 rfl (j_aload_n 0 dX0_fill_67 rfl (j_getI 0 0 f_RX0_17 dX0_fill_68 h (fun h => j_icmp_ge (tgt := 86) dX0_fill_71 (by decide) h (fun h => j_iinc 1 (lv2 := [(2, vI (x2 + 1)), (0, vA x0), (3, vI x3)]) dX0_fill_86 rfl (by decide) rfl (j_goto (tgt := 56) dX0_fill_89 (by decide) (j_sub [1, 0] rfl (hc56 _ _ _ h)))) (fun h => j_aload_n 0 dX0_fill_74 rfl (j_iload_n 1 dX0_fill_75 rfl (j_iload_n 2 dX0_fill_76 rfl (j_callV (rest := []) 0 [vI x2, vI x3] k_RX0_57 ⟨w_2_174, p_1_4⟩ ⟨_, _, rfl⟩ (by decide) rfl rfl (Nat.le_of_ble_eq_true rfl) dX0_fill_77 h (kV (fun S1 h => j_iinc 2 (lv2 := [(3, vI (x3 + 1)), (0, vA x0), (2, vI x2)]) dX0_fill_80 rfl (by decide) rfl (j_goto (tgt := 66) dX0_fill_83 (by decide) (j_sub [1, 2, 0] rfl (ih _ _ _ _ h))))) (fun _ _ h => h.elim))))))))
def VX0_fill_94 (d : Nat) (Q : Out → MS → Prop) : Nat → Nat → Int → MS → Prop
  | 0, _, _, _ => False
  | n + 1, x0, x2, S => (R32 x2 ∧ R32 (3 : Int)) ∧ (((3 : Int) ≤ x2) → Q (.inl none) S) ∧ (¬ ((3 : Int) ≤ x2) → S.K x0 = 0 ∧ ∃ b1, S.R x0 8 = some b1 ∧ ((S.K b1 = 18 ∧ (17 ≤ 18 ∧ 18 < 21) ∧ 0 ≤ x2 ∧ x2 < S.N b1) ∧ ∃ b2, S.R b1 (x2).toNat = some b2 ∧ (S.K b2 = 2 ∧ Mw hX2_fillSets yX2_fillSets d [vA b2] S (oV (fun S3 => S3.K x0 = 0 ∧ ∃ b4, S3.R x0 8 = some b4 ∧ ((S3.K b4 = 18 ∧ (17 ≤ 18 ∧ 18 < 21) ∧ 0 ≤ x2 ∧ x2 < S3.N b4) ∧ ∃ b5, S3.R b4 (x2).toNat = some b5 ∧ (S3.K b5 = 2 ∧ Mw hX2_fillRisings yX2_fillRisings d [vA b5, vA x0] S3 (oV (fun S6 => (VX0_fill_94 d Q n) x0 (x2 + 1) S6)))))))))
theorem JX0_fill_94 {d : Nat} {S0 : MS} {Q : Out → MS → Prop} : ∀ (n : Nat) (x0 : Nat) (x2 : Int) (S : MS), VX0_fill_94 d Q n x0 x2 S → Jw FinM RX0 cX0_fill 4 none [] yX0_fill (d + 1) S0 S 94 [(0, vA x0), (2, vI x2)] [] Q := by
  intro n
  induction n with
  | zero => intro x0 x2 S h; exact h.elim
  | succ n ih =>
    intro x0 x2 S h
    exact j_iload_n 1 dX0_fill_94 rfl (j_iconst dX0_fill_95 (j_icmp_ge (tgt := 124) dX0_fill_96 (by decide) h (fun h => j_vret rfl dX0_fill_124 h) (fun h => j_aload_n 0 dX0_fill_99 rfl (j_getR 0 8 f_RX0_11 dX0_fill_100 h (fun b1 h => j_iload_n 1 dX0_fill_103 rfl (j_aald 18 dX0_fill_104 h (fun b2 h => j_callV (rest := []) 2 [] k_RX0_61 ⟨w_2_177, w_2_178⟩ ⟨_, _, rfl⟩ (by decide) rfl rfl (Nat.le_of_ble_eq_true rfl) dX0_fill_105 h (kV (fun S3 h => j_aload_n 0 dX0_fill_108 rfl (j_getR 0 8 f_RX0_11 dX0_fill_109 h (fun b4 h => j_iload_n 1 dX0_fill_112 rfl (j_aald 18 dX0_fill_113 h (fun b5 h => j_aload_n 0 dX0_fill_114 rfl (j_callV (rest := []) 2 [vA x0] k_RX0_64 ⟨w_2_188, w_2_189⟩ ⟨_, _, rfl⟩ (by decide) rfl rfl (Nat.le_of_ble_eq_true rfl) dX0_fill_115 h (kV (fun S6 h => j_iinc 1 (lv2 := [(2, vI (x2 + 1)), (0, vA x0)]) dX0_fill_118 rfl (by decide) rfl (j_goto (tgt := 94) dX0_fill_121 (by decide) (j_sub [1, 0] rfl (ih _ _ _ h))))) (fun _ _ h => h.elim)))))))) (fun _ _ h => h.elim))))))))
def VX0_fill_56 (d : Nat) (Q : Out → MS → Prop) : Nat → Nat → Int → MS → Prop
  | 0, _, _, _ => False
  | n + 1, x0, x2, S => S.K x0 = 0 ∧ ((R32 x2 ∧ R32 (S.I x0 0)) ∧ (((S.I x0 0) ≤ x2) → ∃ m, VX0_fill_94 d Q m x0 0 S) ∧ (¬ ((S.I x0 0) ≤ x2) → ∃ m, VX0_fill_66 d (VX0_fill_56 d Q n) Q m x0 x2 0 S))
theorem JX0_fill_56 {d : Nat} {S0 : MS} {Q : Out → MS → Prop} : ∀ (n : Nat) (x0 : Nat) (x2 : Int) (S : MS), VX0_fill_56 d Q n x0 x2 S → Jw FinM RX0 cX0_fill 4 none [] yX0_fill (d + 1) S0 S 56 [(0, vA x0), (2, vI x2)] [] Q := by
  intro n
  induction n with
  | zero => intro x0 x2 S h; exact h.elim
  | succ n ih =>
    intro x0 x2 S h
    exact j_iload_n 1 dX0_fill_56 rfl (j_aload_n 0 dX0_fill_57 rfl (j_getI 0 0 f_RX0_17 dX0_fill_58 h (fun h => j_icmp_ge (tgt := 92) dX0_fill_61 (by decide) h (fun h => j_iconst dX0_fill_92 (j_istore_n (lv2 := [(2, vI 0), (0, vA x0)]) dX0_fill_93 (by decide) rfl (Exists.elim h (fun m h => j_sub [1, 0] rfl (JX0_fill_94 m _ _ _ h))))) (fun h => j_iconst dX0_fill_64 (j_istore_n (lv2 := [(3, vI 0), (0, vA x0), (2, vI x2)]) dX0_fill_65 (by decide) rfl (Exists.elim h (fun m h => j_sub [1, 2, 0] rfl (JX0_fill_66 ih m _ _ _ _ h))))))))
def VX0_fill_29 (d : Nat) (Q : Out → MS → Prop) : Nat → Nat → Nat → Int → MS → Prop
  | 0, _, _, _, _ => False
  | n + 1, x0, x1, x2, S => S.K x0 = 0 ∧ ((R32 x2 ∧ R32 (S.I x0 1)) ∧ (((S.I x0 1) ≤ x2) → ∃ m, VX0_fill_56 d Q m x0 0 S) ∧ (¬ ((S.I x0 1) ≤ x2) → S.K x0 = 0 ∧ Mw hX0_put yX0_put d [vA x0, vI x2, vA x1] S (oV (fun S1 => S1.K x0 = 0 ∧ Mw hX0_turnToNext yX0_turnToNext d [vA x0, vA x1] S1 (oV (fun S2 => (VX0_fill_29 d Q n) x0 x1 (x2 + 1) S2))))))
theorem JX0_fill_29 {d : Nat} {S0 : MS} {Q : Out → MS → Prop} : ∀ (n : Nat) (x0 : Nat) (x1 : Nat) (x2 : Int) (S : MS), VX0_fill_29 d Q n x0 x1 x2 S → Jw FinM RX0 cX0_fill 4 none [] yX0_fill (d + 1) S0 S 29 [(0, vA x0), (1, vA x1), (2, vI x2)] [] Q := by
  intro n
  induction n with
  | zero => intro x0 x1 x2 S h; exact h.elim
  | succ n ih =>
    intro x0 x1 x2 S h
    exact j_iload_n 2 dX0_fill_29 rfl (j_aload_n 0 dX0_fill_30 rfl (j_getI 0 1 f_RX0_21 dX0_fill_31 h (fun h => j_icmp_ge (tgt := 54) dX0_fill_34 (by decide) h (fun h => j_iconst dX0_fill_54 (j_istore_n (lv2 := [(2, vI 0), (0, vA x0), (1, vA x1)]) dX0_fill_55 (by decide) rfl (Exists.elim h (fun m h => j_sub [1, 0] rfl (JX0_fill_56 m _ _ _ h))))) (fun h => j_aload_n 0 dX0_fill_37 rfl (j_iload_n 2 dX0_fill_38 rfl (j_aload_n 1 dX0_fill_39 rfl (j_callV (rest := []) 0 [vI x2, vA x1] k_RX0_49 ⟨w_2_163, p_1_2⟩ ⟨_, _, rfl⟩ (by decide) rfl rfl (Nat.le_of_ble_eq_true rfl) dX0_fill_40 h (kV (fun S1 h => j_aload_n 0 dX0_fill_43 rfl (j_aload_n 1 dX0_fill_44 rfl (j_callV (rest := []) 0 [vA x1] k_RX0_53 ⟨w_2_167, p_1_3⟩ ⟨_, _, rfl⟩ (by decide) rfl rfl (Nat.le_of_ble_eq_true rfl) dX0_fill_45 h (kV (fun S2 h => j_iinc 2 (lv2 := [(2, vI (x2 + 1)), (0, vA x0), (1, vA x1)]) dX0_fill_48 rfl (by decide) rfl (j_goto (tgt := 29) dX0_fill_51 (by decide) (j_sub [1, 2, 0] rfl (ih _ _ _ _ h))))) (fun _ _ h => h.elim))))) (fun _ _ h => h.elim))))))))
def VX0_fill_9 (d : Nat) (Q : Out → MS → Prop) : Nat → Nat → Nat → Int → MS → Prop
  | 0, _, _, _, _ => False
  | n + 1, x0, x1, x2, S => S.K x0 = 0 ∧ ((R32 x2 ∧ R32 (S.I x0 0)) ∧ (((S.I x0 0) ≤ x2) → ∃ m, VX0_fill_29 d Q m x0 x1 0 S) ∧ (¬ ((S.I x0 0) ≤ x2) → (S.K x1 = 13 ∧ 0 ≤ x2 ∧ x2 < S.N x1) ∧ ((VX0_fill_9 d Q n) x0 x1 (x2 + 1) (S.setI x1 (x2).toNat x2))))
theorem JX0_fill_9 {d : Nat} {S0 : MS} {Q : Out → MS → Prop} : ∀ (n : Nat) (x0 : Nat) (x1 : Nat) (x2 : Int) (S : MS), VX0_fill_9 d Q n x0 x1 x2 S → Jw FinM RX0 cX0_fill 4 none [] yX0_fill (d + 1) S0 S 9 [(0, vA x0), (1, vA x1), (2, vI x2)] [] Q := by
  intro n
  induction n with
  | zero => intro x0 x1 x2 S h; exact h.elim
  | succ n ih =>
    intro x0 x1 x2 S h
    exact j_iload_n 2 dX0_fill_9 rfl (j_aload_n 0 dX0_fill_10 rfl (j_getI 0 0 f_RX0_17 dX0_fill_11 h (fun h => j_icmp_ge (tgt := 27) dX0_fill_14 (by decide) h (fun h => j_iconst dX0_fill_27 (j_istore_n (lv2 := [(2, vI 0), (0, vA x0), (1, vA x1)]) dX0_fill_28 (by decide) rfl (Exists.elim h (fun m h => j_sub [1, 2, 0] rfl (JX0_fill_29 m _ _ _ _ h))))) (fun h => j_aload_n 1 dX0_fill_17 rfl (j_iload_n 2 dX0_fill_18 rfl (j_iload_n 2 dX0_fill_19 rfl (j_iast dX0_fill_20 h (fun h => j_iinc 2 (lv2 := [(2, vI (x2 + 1)), (0, vA x0), (1, vA x1)]) dX0_fill_21 rfl (by decide) rfl (j_goto (tgt := 9) dX0_fill_24 (by decide) (j_sub [1, 2, 0] rfl (ih _ _ _ _ h)))))))))))
def VX0_fill_0 (d : Nat) (Q : Out → MS → Prop) (x0 : Nat) (S : MS) : Prop :=
  S.K x0 = 0 ∧ ((0 ≤ (S.I x0 0) ∧ (S.I x0 0) < 1000000) ∧ (∃ m, VX0_fill_9 d Q m x0 S.nx 0 (S.mk 13 ((S.I x0 0)).toNat)))
theorem JX0_fill_0 {d : Nat} {S0 : MS} {Q : Out → MS → Prop} (x0 : Nat) (S : MS) (h : VX0_fill_0 d Q x0 S) : Jw FinM RX0 cX0_fill 4 none [] yX0_fill (d + 1) S0 S 0 [(0, vA x0)] [] Q :=
  j_aload_n 0 dX0_fill_0 rfl (j_getI 0 0 f_RX0_17 dX0_fill_1 h (fun h => j_newb 13 dX0_fill_4 rfl (by decide) w_1_58 h (fun h => j_astore_n (lv2 := [(1, vA S.nx), (0, vA x0)]) dX0_fill_6 (by decide) rfl (j_iconst dX0_fill_7 (j_istore_n (lv2 := [(2, vI 0), (1, vA S.nx), (0, vA x0)]) dX0_fill_8 (by decide) rfl (Exists.elim h (fun m h => j_sub [2, 1, 0] rfl (JX0_fill_9 m _ _ _ _ h))))))))
theorem MX0_fill {d : Nat} {x0 : Nat} {S : MS} {Q : Out → MS → Prop} (h : VX0_fill_0 d Q x0 S) : Mw hX0_fill yX0_fill (d + 1) [vA x0] S Q := Mw.ofJ (by decide) (Nat.le_of_ble_eq_true rfl) (JX0_fill_0 _ S h)
theorem dX0_put_0 : decode cX0_put 0 = .ok (.lconst 1, 1) := by decide +kernel
theorem dX0_put_1 : decode cX0_put 1 = .ok (.iload_n 1, 1) := by decide +kernel
theorem dX0_put_2 : decode cX0_put 2 = .ok (.bipush 63, 2) := by decide +kernel
theorem dX0_put_4 : decode cX0_put 4 = .ok (.iand, 1) := by decide +kernel
theorem dX0_put_5 : decode cX0_put 5 = .ok (.lshl, 1) := by decide +kernel
theorem dX0_put_6 : decode cX0_put 6 = .ok (.lstore_n 3, 1) := by decide +kernel
theorem dX0_put_7 : decode cX0_put 7 = .ok (.iconst 0, 1) := by decide +kernel
theorem dX0_put_8 : decode cX0_put 8 = .ok (.istore 5, 2) := by decide +kernel
theorem dX0_put_10 : decode cX0_put 10 = .ok (.iconst 0, 1) := by decide +kernel
theorem dX0_put_11 : decode cX0_put 11 = .ok (.istore 6, 2) := by decide +kernel
theorem dX0_put_13 : decode cX0_put 13 = .ok (.iload 6, 2) := by decide +kernel
theorem dX0_put_15 : decode cX0_put 15 = .ok (.aload_n 0, 1) := by decide +kernel
theorem dX0_put_16 : decode cX0_put 16 = .ok (.getfield 17, 3) := by decide +kernel
theorem dX0_put_19 : decode cX0_put 19 = .ok (.if_icmp .ge 49, 3) := by decide +kernel
theorem dX0_put_22 : decode cX0_put 22 = .ok (.iload 5, 2) := by decide +kernel
theorem dX0_put_24 : decode cX0_put 24 = .ok (.aload_n 2, 1) := by decide +kernel
theorem dX0_put_25 : decode cX0_put 25 = .ok (.iload 6, 2) := by decide +kernel
theorem dX0_put_27 : decode cX0_put 27 = .ok (.iaload, 1) := by decide +kernel
theorem dX0_put_28 : decode cX0_put 28 = .ok (.iconst 3, 1) := by decide +kernel
theorem dX0_put_29 : decode cX0_put 29 = .ok (.iload 6, 2) := by decide +kernel
theorem dX0_put_31 : decode cX0_put 31 = .ok (.imul, 1) := by decide +kernel
theorem dX0_put_32 : decode cX0_put 32 = .ok (.ishl, 1) := by decide +kernel
theorem dX0_put_33 : decode cX0_put 33 = .ok (.ior, 1) := by decide +kernel
theorem dX0_put_34 : decode cX0_put 34 = .ok (.istore 5, 2) := by decide +kernel
theorem dX0_put_36 : decode cX0_put 36 = .ok (.aload_n 0, 1) := by decide +kernel
theorem dX0_put_37 : decode cX0_put 37 = .ok (.getfield 40, 3) := by decide +kernel
theorem dX0_put_40 : decode cX0_put 40 = .ok (.aload_n 2, 1) := by decide +kernel
theorem dX0_put_41 : decode cX0_put 41 = .ok (.iload 6, 2) := by decide +kernel
theorem dX0_put_43 : decode cX0_put 43 = .ok (.iaload, 1) := by decide +kernel
theorem dX0_put_44 : decode cX0_put 44 = .ok (.aload_n 0, 1) := by decide +kernel
theorem dX0_put_45 : decode cX0_put 45 = .ok (.getfield 17, 3) := by decide +kernel
theorem dX0_put_48 : decode cX0_put 48 = .ok (.imul, 1) := by decide +kernel
theorem dX0_put_49 : decode cX0_put 49 = .ok (.iload 6, 2) := by decide +kernel
theorem dX0_put_51 : decode cX0_put 51 = .ok (.iadd, 1) := by decide +kernel
theorem dX0_put_52 : decode cX0_put 52 = .ok (.aaload, 1) := by decide +kernel
theorem dX0_put_53 : decode cX0_put 53 = .ok (.iload_n 1, 1) := by decide +kernel
theorem dX0_put_54 : decode cX0_put 54 = .ok (.bipush 6, 2) := by decide +kernel
theorem dX0_put_56 : decode cX0_put 56 = .ok (.ishr, 1) := by decide +kernel
theorem dX0_put_57 : decode cX0_put 57 = .ok (.dup2, 1) := by decide +kernel
theorem dX0_put_58 : decode cX0_put 58 = .ok (.laload, 1) := by decide +kernel
theorem dX0_put_59 : decode cX0_put 59 = .ok (.lload_n 3, 1) := by decide +kernel
theorem dX0_put_60 : decode cX0_put 60 = .ok (.lor, 1) := by decide +kernel
theorem dX0_put_61 : decode cX0_put 61 = .ok (.lastore, 1) := by decide +kernel
theorem dX0_put_62 : decode cX0_put 62 = .ok (.iinc 6 1, 3) := by decide +kernel
theorem dX0_put_65 : decode cX0_put 65 = .ok (.goto (-52), 3) := by decide +kernel
theorem dX0_put_68 : decode cX0_put 68 = .ok (.aload_n 0, 1) := by decide +kernel
theorem dX0_put_69 : decode cX0_put 69 = .ok (.getfield 31, 3) := by decide +kernel
theorem dX0_put_72 : decode cX0_put 72 = .ok (.iload_n 1, 1) := by decide +kernel
theorem dX0_put_73 : decode cX0_put 73 = .ok (.iload 5, 2) := by decide +kernel
theorem dX0_put_75 : decode cX0_put 75 = .ok (.iastore, 1) := by decide +kernel
theorem dX0_put_76 : decode cX0_put 76 = .ok (.aload_n 0, 1) := by decide +kernel
theorem dX0_put_77 : decode cX0_put 77 = .ok (.getfield 27, 3) := by decide +kernel
theorem dX0_put_80 : decode cX0_put 80 = .ok (.iload_n 1, 1) := by decide +kernel
theorem dX0_put_81 : decode cX0_put 81 = .ok (.bipush 6, 2) := by decide +kernel
theorem dX0_put_83 : decode cX0_put 83 = .ok (.ishr, 1) := by decide +kernel
theorem dX0_put_84 : decode cX0_put 84 = .ok (.dup2, 1) := by decide +kernel
theorem dX0_put_85 : decode cX0_put 85 = .ok (.laload, 1) := by decide +kernel
theorem dX0_put_86 : decode cX0_put 86 = .ok (.lload_n 3, 1) := by decide +kernel
theorem dX0_put_87 : decode cX0_put 87 = .ok (.lor, 1) := by decide +kernel
theorem dX0_put_88 : decode cX0_put 88 = .ok (.lastore, 1) := by decide +kernel
theorem dX0_put_89 : decode cX0_put 89 = .ok (.return_, 1) := by decide +kernel
def VX0_put_13 (d : Nat) (Q : Out → MS → Prop) : Nat → Nat → Int → Nat → BitVec 64 → Int → Int → MS → Prop
  | 0, _, _, _, _, _, _, _ => False
  | n + 1, x0, x1, x2, x3, x5, x6, S => S.K x0 = 0 ∧ ((R32 x6 ∧ R32 (S.I x0 0)) ∧ (((S.I x0 0) ≤ x6) → S.K x0 = 0 ∧ ∃ b1, S.R x0 4 = some b1 ∧ ((S.K b1 = 13 ∧ 0 ≤ x1 ∧ x1 < S.N b1) ∧ ((S.setI b1 (x1).toNat x5).K x0 = 0 ∧ ∃ b2, (S.setI b1 (x1).toNat x5).R x0 3 = some b2 ∧ (((S.setI b1 (x1).toNat x5).K b2 = 14 ∧ 0 ≤ (iShr x1 6) ∧ (iShr x1 6) < (S.setI b1 (x1).toNat x5).N b2) ∧ (((S.setI b1 (x1).toNat x5).K b2 = 14 ∧ 0 ≤ (iShr x1 6) ∧ (iShr x1 6) < (S.setI b1 (x1).toNat x5).N b2) ∧ (∀ S3 : MS, S3 = (S.setI b1 (x1).toNat x5).setJ b2 ((iShr x1 6)).toNat (((S.setI b1 (x1).toNat x5).J b2 ((iShr x1 6)).toNat) ||| x3) → Q (.inl none) S3)))))) ∧ (¬ ((S.I x0 0) ≤ x6) → (S.K x2 = 13 ∧ 0 ≤ x6 ∧ x6 < S.N x2) ∧ (S.K x0 = 0 ∧ ∃ b4, S.R x0 6 = some b4 ∧ ((S.K x2 = 13 ∧ 0 ≤ x6 ∧ x6 < S.N x2) ∧ (S.K x0 = 0 ∧ ((S.K b4 = 20 ∧ (17 ≤ 20 ∧ 20 < 21) ∧ 0 ≤ (((S.I x2 (x6).toNat) * (S.I x0 0)) + x6) ∧ (((S.I x2 (x6).toNat) * (S.I x0 0)) + x6) < S.N b4) ∧ ∃ b5, S.R b4 ((((S.I x2 (x6).toNat) * (S.I x0 0)) + x6)).toNat = some b5 ∧ ((S.K b5 = 14 ∧ 0 ≤ (iShr x1 6) ∧ (iShr x1 6) < S.N b5) ∧ ((S.K b5 = 14 ∧ 0 ≤ (iShr x1 6) ∧ (iShr x1 6) < S.N b5) ∧ ((VX0_put_13 d Q n) x0 x1 x2 x3 (iOr x5 (iShl (S.I x2 (x6).toNat) (3 * x6))) (x6 + 1) (S.setJ b5 ((iShr x1 6)).toNat ((S.J b5 ((iShr x1 6)).toNat) ||| x3)))))))))))
theorem JX0_put_13 {d : Nat} {S0 : MS} {Q : Out → MS → Prop} : ∀ (n : Nat) (x0 : Nat) (x1 : Int) (x2 : Nat) (x3 : BitVec 64) (x5 : Int) (x6 : Int) (S : MS), VX0_put_13 d Q n x0 x1 x2 x3 x5 x6 S → Jw FinM RX0 cX0_put 7 none [] yX0_put (d + 1) S0 S 13 [(0, vA x0), (1, vI x1), (2, vA x2), (3, vL x3), (5, vI x5), (6, vI x6)] [] Q := by
  intro n
  induction n with
  | zero => intro x0 x1 x2 x3 x5 x6 S h; exact h.elim
  | succ n ih =>
    intro x0 x1 x2 x3 x5 x6 S h
    exact j_iload 5 dX0_put_13 rfl (j_aload_n 0 dX0_put_15 rfl (j_getI 0 0 f_RX0_17 dX0_put_16 h (fun h => j_icmp_ge (tgt := 68) dX0_put_19 (by decide) h (fun h => j_aload_n 0 dX0_put_68 rfl (j_getR 0 4 f_RX0_31 dX0_put_69 h (fun b1 h => j_iload_n 1 dX0_put_72 rfl (j_iload 4 dX0_put_73 rfl (j_iast dX0_put_75 h (fun h => j_aload_n 0 dX0_put_76 rfl (j_getR 0 3 f_RX0_27 dX0_put_77 h (fun b2 h => j_iload_n 1 dX0_put_80 rfl (j_bipush dX0_put_81 rfl (j_ishr dX0_put_83 (j_dup2 rfl rfl dX0_put_84 (j_lald dX0_put_85 h (fun h => j_lload_n 3 dX0_put_86 rfl (j_lor dX0_put_87 (j_last dX0_put_88 h (fun h => j_bind h (fun S3 h => j_vret rfl dX0_put_89 h))))))))))))))))) (fun h => j_iload 4 dX0_put_22 rfl (j_aload_n 2 dX0_put_24 rfl (j_iload 5 dX0_put_25 rfl (j_iald dX0_put_27 h (fun h => j_iconst dX0_put_28 (j_iload 5 dX0_put_29 rfl (j_imul dX0_put_31 (j_ishl dX0_put_32 (j_ior dX0_put_33 (j_istore (lv2 := [(5, vI (iOr x5 (iShl (S.I x2 (x6).toNat) (3 * x6)))), (0, vA x0), (1, vI x1), (2, vA x2), (3, vL x3), (6, vI x6)]) dX0_put_34 (by decide) rfl (j_aload_n 1 dX0_put_36 rfl (j_getR 0 6 f_RX0_40 dX0_put_37 h (fun b4 h => j_aload_n 3 dX0_put_40 rfl (j_iload 5 dX0_put_41 rfl (j_iald dX0_put_43 h (fun h => j_aload_n 1 dX0_put_44 rfl (j_getI 0 0 f_RX0_17 dX0_put_45 h (fun h => j_imul dX0_put_48 (j_iload 5 dX0_put_49 rfl (j_iadd dX0_put_51 (j_aald 20 dX0_put_52 h (fun b5 h => j_iload_n 2 dX0_put_53 rfl (j_bipush dX0_put_54 rfl (j_ishr dX0_put_56 (j_dup2 rfl rfl dX0_put_57 (j_lald dX0_put_58 h (fun h => j_lload_n 4 dX0_put_59 rfl (j_lor dX0_put_60 (j_last dX0_put_61 h (fun h => j_iinc 5 (lv2 := [(6, vI (x6 + 1)), (5, vI (iOr x5 (iShl (S.I x2 (x6).toNat) (3 * x6)))), (0, vA x0), (1, vI x1), (2, vA x2), (3, vL x3)]) dX0_put_62 rfl (by decide) rfl (j_goto (tgt := 13) dX0_put_65 (by decide) (j_sub [2, 3, 4, 5, 1, 0] rfl (ih _ _ _ _ _ _ _ h))))))))))))))))))))))))))))))))))))
def VX0_put_0 (d : Nat) (Q : Out → MS → Prop) (x0 : Nat) (x1 : Int) (x2 : Nat) (S : MS) : Prop :=
  ∃ m, VX0_put_13 d Q m x0 x1 x2 (lShl (1#64) (iAnd x1 63)) 0 0 S
theorem JX0_put_0 {d : Nat} {S0 : MS} {Q : Out → MS → Prop} (x0 : Nat) (x1 : Int) (x2 : Nat) (S : MS) (h : VX0_put_0 d Q x0 x1 x2 S) : Jw FinM RX0 cX0_put 7 none [] yX0_put (d + 1) S0 S 0 [(0, vA x0), (1, vI x1), (2, vA x2)] [] Q :=
  j_lconst dX0_put_0 rfl (j_iload_n 1 dX0_put_1 rfl (j_bipush dX0_put_2 rfl (j_iand dX0_put_4 (j_lshl dX0_put_5 (j_lstore_n (lv2 := [(3, vL (lShl (1#64) (iAnd x1 63))), (0, vA x0), (1, vI x1), (2, vA x2)]) dX0_put_6 (by decide) rfl (j_iconst dX0_put_7 (j_istore (lv2 := [(5, vI 0), (3, vL (lShl (1#64) (iAnd x1 63))), (0, vA x0), (1, vI x1), (2, vA x2)]) dX0_put_8 (by decide) rfl (j_iconst dX0_put_10 (j_istore (lv2 := [(6, vI 0), (5, vI 0), (3, vL (lShl (1#64) (iAnd x1 63))), (0, vA x0), (1, vI x1), (2, vA x2)]) dX0_put_11 (by decide) rfl (Exists.elim h (fun m h => j_sub [3, 4, 5, 2, 1, 0] rfl (JX0_put_13 m _ _ _ _ _ _ _ h))))))))))))
theorem MX0_put {d : Nat} {x0 : Nat} {x1 : Int} {x2 : Nat} {S : MS} {Q : Out → MS → Prop} (h : VX0_put_0 d Q x0 x1 x2 S) : Mw hX0_put yX0_put (d + 1) [vA x0, vI x1, vA x2] S Q := Mw.ofJ (by decide) (Nat.le_of_ble_eq_true rfl) (JX0_put_0 _ _ _ S h)
theorem dX0_turnToNext_0 : decode cX0_turnToNext 0 = .ok (.aload_n 0, 1) := by decide +kernel
theorem dX0_turnToNext_1 : decode cX0_turnToNext 1 = .ok (.getfield 17, 3) := by decide +kernel
theorem dX0_turnToNext_4 : decode cX0_turnToNext 4 = .ok (.iconst 2, 1) := by decide +kernel
theorem dX0_turnToNext_5 : decode cX0_turnToNext 5 = .ok (.isub, 1) := by decide +kernel
theorem dX0_turnToNext_6 : decode cX0_turnToNext 6 = .ok (.istore_n 2, 1) := by decide +kernel
theorem dX0_turnToNext_7 : decode cX0_turnToNext 7 = .ok (.iload_n 2, 1) := by decide +kernel
theorem dX0_turnToNext_8 : decode cX0_turnToNext 8 = .ok (.ifCond .lt 20, 3) := by decide +kernel
theorem dX0_turnToNext_11 : decode cX0_turnToNext 11 = .ok (.aload_n 1, 1) := by decide +kernel
theorem dX0_turnToNext_12 : decode cX0_turnToNext 12 = .ok (.iload_n 2, 1) := by decide +kernel
theorem dX0_turnToNext_13 : decode cX0_turnToNext 13 = .ok (.iaload, 1) := by decide +kernel
theorem dX0_turnToNext_14 : decode cX0_turnToNext 14 = .ok (.aload_n 1, 1) := by decide +kernel
theorem dX0_turnToNext_15 : decode cX0_turnToNext 15 = .ok (.iload_n 2, 1) := by decide +kernel
theorem dX0_turnToNext_16 : decode cX0_turnToNext 16 = .ok (.iconst 1, 1) := by decide +kernel
theorem dX0_turnToNext_17 : decode cX0_turnToNext 17 = .ok (.iadd, 1) := by decide +kernel
theorem dX0_turnToNext_18 : decode cX0_turnToNext 18 = .ok (.iaload, 1) := by decide +kernel
theorem dX0_turnToNext_19 : decode cX0_turnToNext 19 = .ok (.if_icmp .le 9, 3) := by decide +kernel
theorem dX0_turnToNext_22 : decode cX0_turnToNext 22 = .ok (.iinc 2 (-1), 3) := by decide +kernel
theorem dX0_turnToNext_25 : decode cX0_turnToNext 25 = .ok (.goto (-18), 3) := by decide +kernel
theorem dX0_turnToNext_28 : decode cX0_turnToNext 28 = .ok (.iload_n 2, 1) := by decide +kernel
theorem dX0_turnToNext_29 : decode cX0_turnToNext 29 = .ok (.ifCond .ge 4, 3) := by decide +kernel
theorem dX0_turnToNext_32 : decode cX0_turnToNext 32 = .ok (.return_, 1) := by decide +kernel
theorem dX0_turnToNext_33 : decode cX0_turnToNext 33 = .ok (.aload_n 0, 1) := by decide +kernel
theorem dX0_turnToNext_34 : decode cX0_turnToNext 34 = .ok (.getfield 17, 3) := by decide +kernel
theorem dX0_turnToNext_37 : decode cX0_turnToNext 37 = .ok (.iconst 1, 1) := by decide +kernel
theorem dX0_turnToNext_38 : decode cX0_turnToNext 38 = .ok (.isub, 1) := by decide +kernel
theorem dX0_turnToNext_39 : decode cX0_turnToNext 39 = .ok (.istore_n 3, 1) := by decide +kernel
theorem dX0_turnToNext_40 : decode cX0_turnToNext 40 = .ok (.iload_n 3, 1) := by decide +kernel
theorem dX0_turnToNext_41 : decode cX0_turnToNext 41 = .ok (.iload_n 2, 1) := by decide +kernel
theorem dX0_turnToNext_42 : decode cX0_turnToNext 42 = .ok (.if_icmp .le 18, 3) := by decide +kernel
theorem dX0_turnToNext_45 : decode cX0_turnToNext 45 = .ok (.aload_n 1, 1) := by decide +kernel
theorem dX0_turnToNext_46 : decode cX0_turnToNext 46 = .ok (.iload_n 3, 1) := by decide +kernel
theorem dX0_turnToNext_47 : decode cX0_turnToNext 47 = .ok (.iaload, 1) := by decide +kernel
theorem dX0_turnToNext_48 : decode cX0_turnToNext 48 = .ok (.aload_n 1, 1) := by decide +kernel
theorem dX0_turnToNext_49 : decode cX0_turnToNext 49 = .ok (.iload_n 2, 1) := by decide +kernel
theorem dX0_turnToNext_50 : decode cX0_turnToNext 50 = .ok (.iaload, 1) := by decide +kernel
theorem dX0_turnToNext_51 : decode cX0_turnToNext 51 = .ok (.if_icmp .ge 9, 3) := by decide +kernel
theorem dX0_turnToNext_54 : decode cX0_turnToNext 54 = .ok (.iinc 3 (-1), 3) := by decide +kernel
theorem dX0_turnToNext_57 : decode cX0_turnToNext 57 = .ok (.goto (-17), 3) := by decide +kernel
theorem dX0_turnToNext_60 : decode cX0_turnToNext 60 = .ok (.aload_n 1, 1) := by decide +kernel
theorem dX0_turnToNext_61 : decode cX0_turnToNext 61 = .ok (.iload_n 2, 1) := by decide +kernel
theorem dX0_turnToNext_62 : decode cX0_turnToNext 62 = .ok (.iload_n 3, 1) := by decide +kernel
theorem dX0_turnToNext_63 : decode cX0_turnToNext 63 = .ok (.invokestatic 68, 3) := by decide +kernel
theorem dX0_turnToNext_66 : decode cX0_turnToNext 66 = .ok (.iload_n 2, 1) := by decide +kernel
theorem dX0_turnToNext_67 : decode cX0_turnToNext 67 = .ok (.iconst 1, 1) := by decide +kernel
theorem dX0_turnToNext_68 : decode cX0_turnToNext 68 = .ok (.iadd, 1) := by decide +kernel
theorem dX0_turnToNext_69 : decode cX0_turnToNext 69 = .ok (.istore 4, 2) := by decide +kernel
theorem dX0_turnToNext_71 : decode cX0_turnToNext 71 = .ok (.aload_n 0, 1) := by decide +kernel
theorem dX0_turnToNext_72 : decode cX0_turnToNext 72 = .ok (.getfield 17, 3) := by decide +kernel
theorem dX0_turnToNext_75 : decode cX0_turnToNext 75 = .ok (.iconst 1, 1) := by decide +kernel
theorem dX0_turnToNext_76 : decode cX0_turnToNext 76 = .ok (.isub, 1) := by decide +kernel
theorem dX0_turnToNext_77 : decode cX0_turnToNext 77 = .ok (.istore 5, 2) := by decide +kernel
theorem dX0_turnToNext_79 : decode cX0_turnToNext 79 = .ok (.iload 4, 2) := by decide +kernel
theorem dX0_turnToNext_81 : decode cX0_turnToNext 81 = .ok (.iload 5, 2) := by decide +kernel
theorem dX0_turnToNext_83 : decode cX0_turnToNext 83 = .ok (.if_icmp .ge 20, 3) := by decide +kernel
theorem dX0_turnToNext_86 : decode cX0_turnToNext 86 = .ok (.aload_n 1, 1) := by decide +kernel
theorem dX0_turnToNext_87 : decode cX0_turnToNext 87 = .ok (.iload 4, 2) := by decide +kernel
theorem dX0_turnToNext_89 : decode cX0_turnToNext 89 = .ok (.iload 5, 2) := by decide +kernel
theorem dX0_turnToNext_91 : decode cX0_turnToNext 91 = .ok (.invokestatic 68, 3) := by decide +kernel
theorem dX0_turnToNext_94 : decode cX0_turnToNext 94 = .ok (.iinc 4 1, 3) := by decide +kernel
theorem dX0_turnToNext_97 : decode cX0_turnToNext 97 = .ok (.iinc 5 (-1), 3) := by decide +kernel
theorem dX0_turnToNext_100 : decode cX0_turnToNext 100 = .ok (.goto (-21), 3) := by decide +kernel
theorem dX0_turnToNext_103 : decode cX0_turnToNext 103 = .ok (.return_, 1) := by decide +kernel
def VX0_turnToNext_79 (d : Nat) (Q : Out → MS → Prop) : Nat → Nat → Int → Int → MS → Prop
  | 0, _, _, _, _ => False
  | n + 1, x1, x4, x5, S => (R32 x4 ∧ R32 x5) ∧ ((x5 ≤ x4) → Q (.inl none) S) ∧ (¬ (x5 ≤ x4) → Mw hX0_swap yX0_swap d [vA x1, vI x4, vI x5] S (oV (fun S1 => (VX0_turnToNext_79 d Q n) x1 (x4 + 1) (x5 + (-1)) S1)))
theorem JX0_turnToNext_79 {d : Nat} {S0 : MS} {Q : Out → MS → Prop} : ∀ (n : Nat) (x1 : Nat) (x4 : Int) (x5 : Int) (S : MS), VX0_turnToNext_79 d Q n x1 x4 x5 S → Jw FinM RX0 cX0_turnToNext 6 none [] yX0_turnToNext (d + 1) S0 S 79 [(1, vA x1), (4, vI x4), (5, vI x5)] [] Q := by
  intro n
  induction n with
  | zero => intro x1 x4 x5 S h; exact h.elim
  | succ n ih =>
    intro x1 x4 x5 S h
    exact j_iload 1 dX0_turnToNext_79 rfl (j_iload 2 dX0_turnToNext_81 rfl (j_icmp_ge (tgt := 103) dX0_turnToNext_83 (by decide) h (fun h => j_vret rfl dX0_turnToNext_103 h) (fun h => j_aload_n 0 dX0_turnToNext_86 rfl (j_iload 1 dX0_turnToNext_87 rfl (j_iload 2 dX0_turnToNext_89 rfl (j_callS (rest := []) [vA x1, vI x4, vI x5] k_RX0_68 w_2_170 rfl rfl (Nat.le_of_ble_eq_true rfl) dX0_turnToNext_91 h (kV (fun S1 h => j_iinc 1 (lv2 := [(4, vI (x4 + 1)), (1, vA x1), (5, vI x5)]) dX0_turnToNext_94 rfl (by decide) rfl (j_iinc 2 (lv2 := [(5, vI (x5 + (-1))), (4, vI (x4 + 1)), (1, vA x1)]) dX0_turnToNext_97 rfl (by decide) rfl (j_goto (tgt := 79) dX0_turnToNext_100 (by decide) (j_sub [2, 1, 0] rfl (ih _ _ _ _ h)))))) (fun _ _ h => h.elim)))))))
def VX0_turnToNext_60 (d : Nat) (Q : Out → MS → Prop) (x0 : Nat) (x1 : Nat) (x2 : Int) (x3 : Int) (S : MS) : Prop :=
  Mw hX0_swap yX0_swap d [vA x1, vI x2, vI x3] S (oV (fun S1 => S1.K x0 = 0 ∧ (∃ m, VX0_turnToNext_79 d Q m x1 (x2 + 1) ((S1.I x0 0) - 1) S1)))
theorem JX0_turnToNext_60 {d : Nat} {S0 : MS} {Q : Out → MS → Prop} (x0 : Nat) (x1 : Nat) (x2 : Int) (x3 : Int) (S : MS) (h : VX0_turnToNext_60 d Q x0 x1 x2 x3 S) : Jw FinM RX0 cX0_turnToNext 6 none [] yX0_turnToNext (d + 1) S0 S 60 [(0, vA x0), (1, vA x1), (2, vI x2), (3, vI x3)] [] Q :=
  j_aload_n 1 dX0_turnToNext_60 rfl (j_iload_n 2 dX0_turnToNext_61 rfl (j_iload_n 3 dX0_turnToNext_62 rfl (j_callS (rest := []) [vA x1, vI x2, vI x3] k_RX0_68 w_2_170 rfl rfl (Nat.le_of_ble_eq_true rfl) dX0_turnToNext_63 h (kV (fun S1 h => j_iload_n 2 dX0_turnToNext_66 rfl (j_iconst dX0_turnToNext_67 (j_iadd dX0_turnToNext_68 (j_istore (lv2 := [(4, vI (x2 + 1)), (0, vA x0), (1, vA x1), (2, vI x2), (3, vI x3)]) dX0_turnToNext_69 (by decide) rfl (j_aload_n 1 dX0_turnToNext_71 rfl (j_getI 0 0 f_RX0_17 dX0_turnToNext_72 h (fun h => j_iconst dX0_turnToNext_75 (j_isub dX0_turnToNext_76 (j_istore (lv2 := [(5, vI ((S1.I x0 0) - 1)), (4, vI (x2 + 1)), (0, vA x0), (1, vA x1), (2, vI x2), (3, vI x3)]) dX0_turnToNext_77 (by decide) rfl (Exists.elim h (fun m h => j_sub [3, 1, 0] rfl (JX0_turnToNext_79 m _ _ _ _ h))))))))))))) (fun _ _ h => h.elim))))
def VX0_turnToNext_40 (d : Nat) (Q : Out → MS → Prop) : Nat → Nat → Nat → Int → Int → MS → Prop
  | 0, _, _, _, _, _ => False
  | n + 1, x0, x1, x2, x3, S => (R32 x3 ∧ R32 x2) ∧ ((x3 ≤ x2) → VX0_turnToNext_60 d Q x0 x1 x2 x3 S) ∧ (¬ (x3 ≤ x2) → (S.K x1 = 13 ∧ 0 ≤ x3 ∧ x3 < S.N x1) ∧ ((S.K x1 = 13 ∧ 0 ≤ x2 ∧ x2 < S.N x1) ∧ ((R32 (S.I x1 (x3).toNat) ∧ R32 (S.I x1 (x2).toNat)) ∧ (((S.I x1 (x2).toNat) ≤ (S.I x1 (x3).toNat)) → VX0_turnToNext_60 d Q x0 x1 x2 x3 S) ∧ (¬ ((S.I x1 (x2).toNat) ≤ (S.I x1 (x3).toNat)) → (VX0_turnToNext_40 d Q n) x0 x1 x2 (x3 + (-1)) S))))
theorem JX0_turnToNext_40 {d : Nat} {S0 : MS} {Q : Out → MS → Prop} : ∀ (n : Nat) (x0 : Nat) (x1 : Nat) (x2 : Int) (x3 : Int) (S : MS), VX0_turnToNext_40 d Q n x0 x1 x2 x3 S → Jw FinM RX0 cX0_turnToNext 6 none [] yX0_turnToNext (d + 1) S0 S 40 [(0, vA x0), (1, vA x1), (2, vI x2), (3, vI x3)] [] Q := by
  intro n
  induction n with
  | zero => intro x0 x1 x2 x3 S h; exact h.elim
  | succ n ih =>
    intro x0 x1 x2 x3 S h
    exact j_iload_n 3 dX0_turnToNext_40 rfl (j_iload_n 2 dX0_turnToNext_41 rfl (j_icmp_le (tgt := 60) dX0_turnToNext_42 (by decide) h (fun h => JX0_turnToNext_60 _ _ _ _ _ h) (fun h => j_aload_n 1 dX0_turnToNext_45 rfl (j_iload_n 3 dX0_turnToNext_46 rfl (j_iald dX0_turnToNext_47 h (fun h => j_aload_n 1 dX0_turnToNext_48 rfl (j_iload_n 2 dX0_turnToNext_49 rfl (j_iald dX0_turnToNext_50 h (fun h => j_icmp_ge (tgt := 60) dX0_turnToNext_51 (by decide) h (fun h => JX0_turnToNext_60 _ _ _ _ _ h) (fun h => j_iinc 3 (lv2 := [(3, vI (x3 + (-1))), (0, vA x0), (1, vA x1), (2, vI x2)]) dX0_turnToNext_54 rfl (by decide) rfl (j_goto (tgt := 40) dX0_turnToNext_57 (by decide) (j_sub [1, 2, 3, 0] rfl (ih _ _ _ _ _ h)))))))))))))
def VX0_turnToNext_28 (d : Nat) (Q : Out → MS → Prop) (x0 : Nat) (x1 : Nat) (x2 : Int) (S : MS) : Prop :=
  R32 x2 ∧ ((0 ≤ x2) → S.K x0 = 0 ∧ (∃ m, VX0_turnToNext_40 d Q m x0 x1 x2 ((S.I x0 0) - 1) S)) ∧ (¬ (0 ≤ x2) → Q (.inl none) S)
theorem JX0_turnToNext_28 {d : Nat} {S0 : MS} {Q : Out → MS → Prop} (x0 : Nat) (x1 : Nat) (x2 : Int) (S : MS) (h : VX0_turnToNext_28 d Q x0 x1 x2 S) : Jw FinM RX0 cX0_turnToNext 6 none [] yX0_turnToNext (d + 1) S0 S 28 [(0, vA x0), (1, vA x1), (2, vI x2)] [] Q :=
  j_iload_n 2 dX0_turnToNext_28 rfl (j_if_ge (tgt := 33) dX0_turnToNext_29 (by decide) h (fun h => j_aload_n 0 dX0_turnToNext_33 rfl (j_getI 0 0 f_RX0_17 dX0_turnToNext_34 h (fun h => j_iconst dX0_turnToNext_37 (j_isub dX0_turnToNext_38 (j_istore_n (lv2 := [(3, vI ((S.I x0 0) - 1)), (0, vA x0), (1, vA x1), (2, vI x2)]) dX0_turnToNext_39 (by decide) rfl (Exists.elim h (fun m h => j_sub [1, 2, 3, 0] rfl (JX0_turnToNext_40 m _ _ _ _ _ h)))))))) (fun h => j_vret rfl dX0_turnToNext_32 h))
def VX0_turnToNext_7 (d : Nat) (Q : Out → MS → Prop) : Nat → Nat → Nat → Int → MS → Prop
  | 0, _, _, _, _ => False
  | n + 1, x0, x1, x2, S => R32 x2 ∧ ((x2 < 0) → VX0_turnToNext_28 d Q x0 x1 x2 S) ∧ (¬ (x2 < 0) → (S.K x1 = 13 ∧ 0 ≤ x2 ∧ x2 < S.N x1) ∧ ((S.K x1 = 13 ∧ 0 ≤ (x2 + 1) ∧ (x2 + 1) < S.N x1) ∧ ((R32 (S.I x1 (x2).toNat) ∧ R32 (S.I x1 ((x2 + 1)).toNat)) ∧ (((S.I x1 (x2).toNat) ≤ (S.I x1 ((x2 + 1)).toNat)) → VX0_turnToNext_28 d Q x0 x1 x2 S) ∧ (¬ ((S.I x1 (x2).toNat) ≤ (S.I x1 ((x2 + 1)).toNat)) → (VX0_turnToNext_7 d Q n) x0 x1 (x2 + (-1)) S))))
theorem JX0_turnToNext_7 {d : Nat} {S0 : MS} {Q : Out → MS → Prop} : ∀ (n : Nat) (x0 : Nat) (x1 : Nat) (x2 : Int) (S : MS), VX0_turnToNext_7 d Q n x0 x1 x2 S → Jw FinM RX0 cX0_turnToNext 6 none [] yX0_turnToNext (d + 1) S0 S 7 [(0, vA x0), (1, vA x1), (2, vI x2)] [] Q := by
  intro n
  induction n with
  | zero => intro x0 x1 x2 S h; exact h.elim
  | succ n ih =>
    intro x0 x1 x2 S h
    exact j_iload_n 2 dX0_turnToNext_7 rfl (j_if_lt (tgt := 28) dX0_turnToNext_8 (by decide) h (fun h => JX0_turnToNext_28 _ _ _ _ h) (fun h => j_aload_n 1 dX0_turnToNext_11 rfl (j_iload_n 2 dX0_turnToNext_12 rfl (j_iald dX0_turnToNext_13 h (fun h => j_aload_n 1 dX0_turnToNext_14 rfl (j_iload_n 2 dX0_turnToNext_15 rfl (j_iconst dX0_turnToNext_16 (j_iadd dX0_turnToNext_17 (j_iald dX0_turnToNext_18 h (fun h => j_icmp_le (tgt := 28) dX0_turnToNext_19 (by decide) h (fun h => JX0_turnToNext_28 _ _ _ _ h) (fun h => j_iinc 2 (lv2 := [(2, vI (x2 + (-1))), (0, vA x0), (1, vA x1)]) dX0_turnToNext_22 rfl (by decide) rfl (j_goto (tgt := 7) dX0_turnToNext_25 (by decide) (j_sub [1, 2, 0] rfl (ih _ _ _ _ h))))))))))))))
def VX0_turnToNext_0 (d : Nat) (Q : Out → MS → Prop) (x0 : Nat) (x1 : Nat) (S : MS) : Prop :=
  S.K x0 = 0 ∧ (∃ m, VX0_turnToNext_7 d Q m x0 x1 ((S.I x0 0) - 2) S)
theorem JX0_turnToNext_0 {d : Nat} {S0 : MS} {Q : Out → MS → Prop} (x0 : Nat) (x1 : Nat) (S : MS) (h : VX0_turnToNext_0 d Q x0 x1 S) : Jw FinM RX0 cX0_turnToNext 6 none [] yX0_turnToNext (d + 1) S0 S 0 [(0, vA x0), (1, vA x1)] [] Q :=
  j_aload_n 0 dX0_turnToNext_0 rfl (j_getI 0 0 f_RX0_17 dX0_turnToNext_1 h (fun h => j_iconst dX0_turnToNext_4 (j_isub dX0_turnToNext_5 (j_istore_n (lv2 := [(2, vI ((S.I x0 0) - 2)), (0, vA x0), (1, vA x1)]) dX0_turnToNext_6 (by decide) rfl (Exists.elim h (fun m h => j_sub [1, 2, 0] rfl (JX0_turnToNext_7 m _ _ _ _ h)))))))
theorem MX0_turnToNext {d : Nat} {x0 : Nat} {x1 : Nat} {S : MS} {Q : Out → MS → Prop} (h : VX0_turnToNext_0 d Q x0 x1 S) : Mw hX0_turnToNext yX0_turnToNext (d + 1) [vA x0, vA x1] S Q := Mw.ofJ (by decide) (Nat.le_of_ble_eq_true rfl) (JX0_turnToNext_0 _ _ S h)
theorem dX0_swap_0 : decode cX0_swap 0 = .ok (.aload_n 0, 1) := by decide +kernel
theorem dX0_swap_1 : decode cX0_swap 1 = .ok (.iload_n 1, 1) := by decide +kernel
theorem dX0_swap_2 : decode cX0_swap 2 = .ok (.iaload, 1) := by decide +kernel
theorem dX0_swap_3 : decode cX0_swap 3 = .ok (.istore_n 3, 1) := by decide +kernel
theorem dX0_swap_4 : decode cX0_swap 4 = .ok (.aload_n 0, 1) := by decide +kernel
theorem dX0_swap_5 : decode cX0_swap 5 = .ok (.iload_n 1, 1) := by decide +kernel
theorem dX0_swap_6 : decode cX0_swap 6 = .ok (.aload_n 0, 1) := by decide +kernel
theorem dX0_swap_7 : decode cX0_swap 7 = .ok (.iload_n 2, 1) := by decide +kernel
theorem dX0_swap_8 : decode cX0_swap 8 = .ok (.iaload, 1) := by decide +kernel
theorem dX0_swap_9 : decode cX0_swap 9 = .ok (.iastore, 1) := by decide +kernel
theorem dX0_swap_10 : decode cX0_swap 10 = .ok (.aload_n 0, 1) := by decide +kernel
theorem dX0_swap_11 : decode cX0_swap 11 = .ok (.iload_n 2, 1) := by decide +kernel
theorem dX0_swap_12 : decode cX0_swap 12 = .ok (.iload_n 3, 1) := by decide +kernel
theorem dX0_swap_13 : decode cX0_swap 13 = .ok (.iastore, 1) := by decide +kernel
theorem dX0_swap_14 : decode cX0_swap 14 = .ok (.return_, 1) := by decide +kernel
def VX0_swap_0 (d : Nat) (Q : Out → MS → Prop) (x0 : Nat) (x1 : Int) (x2 : Int) (S : MS) : Prop :=
  (S.K x0 = 13 ∧ 0 ≤ x1 ∧ x1 < S.N x0) ∧ ((S.K x0 = 13 ∧ 0 ≤ x2 ∧ x2 < S.N x0) ∧ ((S.K x0 = 13 ∧ 0 ≤ x1 ∧ x1 < S.N x0) ∧ (((S.setI x0 (x1).toNat (S.I x0 (x2).toNat)).K x0 = 13 ∧ 0 ≤ x2 ∧ x2 < (S.setI x0 (x1).toNat (S.I x0 (x2).toNat)).N x0) ∧ (Q (.inl none) ((S.setI x0 (x1).toNat (S.I x0 (x2).toNat)).setI x0 (x2).toNat (S.I x0 (x1).toNat))))))
theorem JX0_swap_0 {d : Nat} {S0 : MS} {Q : Out → MS → Prop} (x0 : Nat) (x1 : Int) (x2 : Int) (S : MS) (h : VX0_swap_0 d Q x0 x1 x2 S) : Jw FinM RX0 cX0_swap 4 none [] yX0_swap (d + 1) S0 S 0 [(0, vA x0), (1, vI x1), (2, vI x2)] [] Q :=
  j_aload_n 0 dX0_swap_0 rfl (j_iload_n 1 dX0_swap_1 rfl (j_iald dX0_swap_2 h (fun h => j_istore_n (lv2 := [(3, vI (S.I x0 (x1).toNat)), (0, vA x0), (1, vI x1), (2, vI x2)]) dX0_swap_3 (by decide) rfl (j_aload_n 1 dX0_swap_4 rfl (j_iload_n 2 dX0_swap_5 rfl (j_aload_n 1 dX0_swap_6 rfl (j_iload_n 3 dX0_swap_7 rfl (j_iald dX0_swap_8 h (fun h => j_iast dX0_swap_9 h (fun h => j_aload_n 1 dX0_swap_10 rfl (j_iload_n 3 dX0_swap_11 rfl (j_iload_n 0 dX0_swap_12 rfl (j_iast dX0_swap_13 h (fun h => j_vret rfl dX0_swap_14 h))))))))))))))
theorem MX0_swap {d : Nat} {x0 : Nat} {x1 : Int} {x2 : Int} {S : MS} {Q : Out → MS → Prop} (h : VX0_swap_0 d Q x0 x1 x2 S) : Mw hX0_swap yX0_swap (d + 1) [vA x0, vI x1, vI x2] S Q := Mw.ofJ (by decide) (Nat.le_of_ble_eq_true rfl) (JX0_swap_0 _ _ _ S h)
theorem dX0_fillHeavier_0 : decode cX0_fillHeavier 0 = .ok (.aload_n 0, 1) := by decide +kernel
theorem dX0_fillHeavier_1 : decode cX0_fillHeavier 1 = .ok (.getfield 43, 3) := by decide +kernel
theorem dX0_fillHeavier_4 : decode cX0_fillHeavier 4 = .ok (.iload_n 1, 1) := by decide +kernel
theorem dX0_fillHeavier_5 : decode cX0_fillHeavier 5 = .ok (.aload_n 0, 1) := by decide +kernel
theorem dX0_fillHeavier_6 : decode cX0_fillHeavier 6 = .ok (.getfield 17, 3) := by decide +kernel
theorem dX0_fillHeavier_9 : decode cX0_fillHeavier 9 = .ok (.imul, 1) := by decide +kernel
theorem dX0_fillHeavier_10 : decode cX0_fillHeavier 10 = .ok (.iload_n 2, 1) := by decide +kernel
theorem dX0_fillHeavier_11 : decode cX0_fillHeavier 11 = .ok (.iadd, 1) := by decide +kernel
theorem dX0_fillHeavier_12 : decode cX0_fillHeavier 12 = .ok (.aaload, 1) := by decide +kernel
theorem dX0_fillHeavier_13 : decode cX0_fillHeavier 13 = .ok (.astore_n 3, 1) := by decide +kernel
theorem dX0_fillHeavier_14 : decode cX0_fillHeavier 14 = .ok (.iconst 0, 1) := by decide +kernel
theorem dX0_fillHeavier_15 : decode cX0_fillHeavier 15 = .ok (.istore 4, 2) := by decide +kernel
theorem dX0_fillHeavier_17 : decode cX0_fillHeavier 17 = .ok (.iload 4, 2) := by decide +kernel
theorem dX0_fillHeavier_19 : decode cX0_fillHeavier 19 = .ok (.aload_n 0, 1) := by decide +kernel
theorem dX0_fillHeavier_20 : decode cX0_fillHeavier 20 = .ok (.getfield 24, 3) := by decide +kernel
theorem dX0_fillHeavier_23 : decode cX0_fillHeavier 23 = .ok (.if_icmp .ge 79, 3) := by decide +kernel
theorem dX0_fillHeavier_26 : decode cX0_fillHeavier 26 = .ok (.lconst 0, 1) := by decide +kernel
theorem dX0_fillHeavier_27 : decode cX0_fillHeavier 27 = .ok (.lstore 5, 2) := by decide +kernel
theorem dX0_fillHeavier_29 : decode cX0_fillHeavier 29 = .ok (.iconst 0, 1) := by decide +kernel
theorem dX0_fillHeavier_30 : decode cX0_fillHeavier 30 = .ok (.istore 7, 2) := by decide +kernel
theorem dX0_fillHeavier_32 : decode cX0_fillHeavier 32 = .ok (.iload 7, 2) := by decide +kernel
theorem dX0_fillHeavier_34 : decode cX0_fillHeavier 34 = .ok (.aload_n 0, 1) := by decide +kernel
theorem dX0_fillHeavier_35 : decode cX0_fillHeavier 35 = .ok (.getfield 17, 3) := by decide +kernel
theorem dX0_fillHeavier_38 : decode cX0_fillHeavier 38 = .ok (.if_icmp .ge 58, 3) := by decide +kernel
theorem dX0_fillHeavier_41 : decode cX0_fillHeavier 41 = .ok (.aload_n 3, 1) := by decide +kernel
theorem dX0_fillHeavier_42 : decode cX0_fillHeavier 42 = .ok (.iload 4, 2) := by decide +kernel
theorem dX0_fillHeavier_44 : decode cX0_fillHeavier 44 = .ok (.dup2, 1) := by decide +kernel
theorem dX0_fillHeavier_45 : decode cX0_fillHeavier 45 = .ok (.laload, 1) := by decide +kernel
theorem dX0_fillHeavier_46 : decode cX0_fillHeavier 46 = .ok (.aload_n 0, 1) := by decide +kernel
theorem dX0_fillHeavier_47 : decode cX0_fillHeavier 47 = .ok (.getfield 40, 3) := by decide +kernel
theorem dX0_fillHeavier_50 : decode cX0_fillHeavier 50 = .ok (.iload_n 1, 1) := by decide +kernel
theorem dX0_fillHeavier_51 : decode cX0_fillHeavier 51 = .ok (.aload_n 0, 1) := by decide +kernel
theorem dX0_fillHeavier_52 : decode cX0_fillHeavier 52 = .ok (.getfield 17, 3) := by decide +kernel
theorem dX0_fillHeavier_55 : decode cX0_fillHeavier 55 = .ok (.imul, 1) := by decide +kernel
theorem dX0_fillHeavier_56 : decode cX0_fillHeavier 56 = .ok (.iload 7, 2) := by decide +kernel
theorem dX0_fillHeavier_58 : decode cX0_fillHeavier 58 = .ok (.iadd, 1) := by decide +kernel
theorem dX0_fillHeavier_59 : decode cX0_fillHeavier 59 = .ok (.aaload, 1) := by decide +kernel
theorem dX0_fillHeavier_60 : decode cX0_fillHeavier 60 = .ok (.iload 4, 2) := by decide +kernel
theorem dX0_fillHeavier_62 : decode cX0_fillHeavier 62 = .ok (.laload, 1) := by decide +kernel
theorem dX0_fillHeavier_63 : decode cX0_fillHeavier 63 = .ok (.lload 5, 2) := by decide +kernel
theorem dX0_fillHeavier_65 : decode cX0_fillHeavier 65 = .ok (.land, 1) := by decide +kernel
theorem dX0_fillHeavier_66 : decode cX0_fillHeavier 66 = .ok (.lor, 1) := by decide +kernel
theorem dX0_fillHeavier_67 : decode cX0_fillHeavier 67 = .ok (.lastore, 1) := by decide +kernel
theorem dX0_fillHeavier_68 : decode cX0_fillHeavier 68 = .ok (.lload 5, 2) := by decide +kernel
theorem dX0_fillHeavier_70 : decode cX0_fillHeavier 70 = .ok (.aload_n 0, 1) := by decide +kernel
theorem dX0_fillHeavier_71 : decode cX0_fillHeavier 71 = .ok (.getfield 40, 3) := by decide +kernel
theorem dX0_fillHeavier_74 : decode cX0_fillHeavier 74 = .ok (.iload_n 2, 1) := by decide +kernel
theorem dX0_fillHeavier_75 : decode cX0_fillHeavier 75 = .ok (.aload_n 0, 1) := by decide +kernel
theorem dX0_fillHeavier_76 : decode cX0_fillHeavier 76 = .ok (.getfield 17, 3) := by decide +kernel
theorem dX0_fillHeavier_79 : decode cX0_fillHeavier 79 = .ok (.imul, 1) := by decide +kernel
theorem dX0_fillHeavier_80 : decode cX0_fillHeavier 80 = .ok (.iload 7, 2) := by decide +kernel
theorem dX0_fillHeavier_82 : decode cX0_fillHeavier 82 = .ok (.iadd, 1) := by decide +kernel
theorem dX0_fillHeavier_83 : decode cX0_fillHeavier 83 = .ok (.aaload, 1) := by decide +kernel
theorem dX0_fillHeavier_84 : decode cX0_fillHeavier 84 = .ok (.iload 4, 2) := by decide +kernel
theorem dX0_fillHeavier_86 : decode cX0_fillHeavier 86 = .ok (.laload, 1) := by decide +kernel
theorem dX0_fillHeavier_87 : decode cX0_fillHeavier 87 = .ok (.lor, 1) := by decide +kernel
theorem dX0_fillHeavier_88 : decode cX0_fillHeavier 88 = .ok (.lstore 5, 2) := by decide +kernel
theorem dX0_fillHeavier_90 : decode cX0_fillHeavier 90 = .ok (.iinc 7 1, 3) := by decide +kernel
theorem dX0_fillHeavier_93 : decode cX0_fillHeavier 93 = .ok (.goto (-61), 3) := by decide +kernel
theorem dX0_fillHeavier_96 : decode cX0_fillHeavier 96 = .ok (.iinc 4 1, 3) := by decide +kernel
theorem dX0_fillHeavier_99 : decode cX0_fillHeavier 99 = .ok (.goto (-82), 3) := by decide +kernel
theorem dX0_fillHeavier_102 : decode cX0_fillHeavier 102 = .ok (.return_, 1) := by decide +kernel
def VX0_fillHeavier_32 (d : Nat) (c17 : Nat → Int → Int → Nat → Int → MS → Prop) (Q : Out → MS → Prop) : Nat → Nat → Int → Int → Nat → Int → BitVec 64 → Int → MS → Prop
  | 0, _, _, _, _, _, _, _, _ => False
  | n + 1, x0, x1, x2, x3, x4, x5, x7, S => S.K x0 = 0 ∧ ((R32 x7 ∧ R32 (S.I x0 0)) ∧ (((S.I x0 0) ≤ x7) → c17 x0 x1 x2 x3 (x4 + 1) S) ∧ (¬ ((S.I x0 0) ≤ x7) → (S.K x3 = 14 ∧ 0 ≤ x4 ∧ x4 < S.N x3) ∧ (S.K x0 = 0 ∧ ∃ b1, S.R x0 6 = some b1 ∧ (S.K x0 = 0 ∧ ((S.K b1 = 20 ∧ (17 ≤ 20 ∧ 20 < 21) ∧ 0 ≤ ((x1 * (S.I x0 0)) + x7) ∧ ((x1 * (S.I x0 0)) + x7) < S.N b1) ∧ ∃ b2, S.R b1 (((x1 * (S.I x0 0)) + x7)).toNat = some b2 ∧ ((S.K b2 = 14 ∧ 0 ≤ x4 ∧ x4 < S.N b2) ∧ ((S.K x3 = 14 ∧ 0 ≤ x4 ∧ x4 < S.N x3) ∧ ((S.setJ x3 (x4).toNat ((S.J x3 (x4).toNat) ||| ((S.J b2 (x4).toNat) &&& x5))).K x0 = 0 ∧ ∃ b3, (S.setJ x3 (x4).toNat ((S.J x3 (x4).toNat) ||| ((S.J b2 (x4).toNat) &&& x5))).R x0 6 = some b3 ∧ ((S.setJ x3 (x4).toNat ((S.J x3 (x4).toNat) ||| ((S.J b2 (x4).toNat) &&& x5))).K x0 = 0 ∧ (((S.setJ x3 (x4).toNat ((S.J x3 (x4).toNat) ||| ((S.J b2 (x4).toNat) &&& x5))).K b3 = 20 ∧ (17 ≤ 20 ∧ 20 < 21) ∧ 0 ≤ ((x2 * ((S.setJ x3 (x4).toNat ((S.J x3 (x4).toNat) ||| ((S.J b2 (x4).toNat) &&& x5))).I x0 0)) + x7) ∧ ((x2 * ((S.setJ x3 (x4).toNat ((S.J x3 (x4).toNat) ||| ((S.J b2 (x4).toNat) &&& x5))).I x0 0)) + x7) < (S.setJ x3 (x4).toNat ((S.J x3 (x4).toNat) ||| ((S.J b2 (x4).toNat) &&& x5))).N b3) ∧ ∃ b4, (S.setJ x3 (x4).toNat ((S.J x3 (x4).toNat) ||| ((S.J b2 (x4).toNat) &&& x5))).R b3 (((x2 * ((S.setJ x3 (x4).toNat ((S.J x3 (x4).toNat) ||| ((S.J b2 (x4).toNat) &&& x5))).I x0 0)) + x7)).toNat = some b4 ∧ (((S.setJ x3 (x4).toNat ((S.J x3 (x4).toNat) ||| ((S.J b2 (x4).toNat) &&& x5))).K b4 = 14 ∧ 0 ≤ x4 ∧ x4 < (S.setJ x3 (x4).toNat ((S.J x3 (x4).toNat) ||| ((S.J b2 (x4).toNat) &&& x5))).N b4) ∧ ((VX0_fillHeavier_32 d c17 Q n) x0 x1 x2 x3 x4 (x5 ||| ((S.setJ x3 (x4).toNat ((S.J x3 (x4).toNat) ||| ((S.J b2 (x4).toNat) &&& x5))).J b4 (x4).toNat)) (x7 + 1) (S.setJ x3 (x4).toNat ((S.J x3 (x4).toNat) ||| ((S.J b2 (x4).toNat) &&& x5)))))))))))))))
theorem JX0_fillHeavier_32 {d : Nat} {c17 : Nat → Int → Int → Nat → Int → MS → Prop} {S0 : MS} {Q : Out → MS → Prop} (hc17 : ∀ (x0 : Nat) (x1 : Int) (x2 : Int) (x3 : Nat) (x4 : Int) (S : MS), c17 x0 x1 x2 x3 x4 S → Jw FinM RX0 cX0_fillHeavier 8 none [] yX0_fillHeavier (d + 1) S0 S 17 [(0, vA x0), (1, vI x1), (2, vI x2), (3, vA x3), (4, vI x4)] [] Q) : ∀ (n : Nat) (x0 : Nat) (x1 : Int) (x2 : Int) (x3 : Nat) (x4 : Int) (x5 : BitVec 64) (x7 : Int) (S : MS), VX0_fillHeavier_32 d c17 Q n x0 x1 x2 x3 x4 x5 x7 S → Jw FinM RX0 cX0_fillHeavier 8 none [] yX0_fillHeavier (d + 1) S0 S 32 [(0, vA x0), (1, vI x1), (2, vI x2), (3, vA x3), (4, vI x4), (5, vL x5), (7, vI x7)] [] Q := by
  intro n
  induction n with
  | zero => intro x0 x1 x2 x3 x4 x5 x7 S h; exact h.elim
  | succ n ih =>
    intro x0 x1 x2 x3 x4 x5 x7 S h
    exact j_iload 6 dX0_fillHeavier_32 rfl (j_aload_n 0 dX0_fillHeavier_34 rfl (j_getI 0 0 f_RX0_17 dX0_fillHeavier_35 h (fun h => j_icmp_ge (tgt := 96) dX0_fillHeavier_38 (by decide) h (fun h => j_iinc 4 (lv2 := [(4, vI (x4 + 1)), (0, vA x0), (1, vI x1), (2, vI x2), (3, vA x3), (5, vL x5), (7, vI x7)]) dX0_fillHeavier_96 rfl (by decide) rfl (j_goto (tgt := 17) dX0_fillHeavier_99 (by decide) (j_sub [1, 2, 3, 4, 0] rfl (hc17 _ _ _ _ _ _ h)))) (fun h => j_aload_n 3 dX0_fillHeavier_41 rfl (j_iload 4 dX0_fillHeavier_42 rfl (j_dup2 rfl rfl dX0_fillHeavier_44 (j_lald dX0_fillHeavier_45 h (fun h => j_aload_n 0 dX0_fillHeavier_46 rfl (j_getR 0 6 f_RX0_40 dX0_fillHeavier_47 h (fun b1 h => j_iload_n 1 dX0_fillHeavier_50 rfl (j_aload_n 0 dX0_fillHeavier_51 rfl (j_getI 0 0 f_RX0_17 dX0_fillHeavier_52 h (fun h => j_imul dX0_fillHeavier_55 (j_iload 6 dX0_fillHeavier_56 rfl (j_iadd dX0_fillHeavier_58 (j_aald 20 dX0_fillHeavier_59 h (fun b2 h => j_iload 4 dX0_fillHeavier_60 rfl (j_lald dX0_fillHeavier_62 h (fun h => j_lload 5 dX0_fillHeavier_63 rfl (j_land dX0_fillHeavier_65 (j_lor dX0_fillHeavier_66 (j_last dX0_fillHeavier_67 h (fun h => j_lload 5 dX0_fillHeavier_68 rfl (j_aload_n 0 dX0_fillHeavier_70 rfl (j_getR 0 6 f_RX0_40 dX0_fillHeavier_71 h (fun b3 h => j_iload_n 2 dX0_fillHeavier_74 rfl (j_aload_n 0 dX0_fillHeavier_75 rfl (j_getI 0 0 f_RX0_17 dX0_fillHeavier_76 h (fun h => j_imul dX0_fillHeavier_79 (j_iload 6 dX0_fillHeavier_80 rfl (j_iadd dX0_fillHeavier_82 (j_aald 20 dX0_fillHeavier_83 h (fun b4 h => j_iload 4 dX0_fillHeavier_84 rfl (j_lald dX0_fillHeavier_86 h (fun h => j_lor dX0_fillHeavier_87 (j_lstore (lv2 := [(5, vL (x5 ||| ((S.setJ x3 (x4).toNat ((S.J x3 (x4).toNat) ||| ((S.J b2 (x4).toNat) &&& x5))).J b4 (x4).toNat))), (0, vA x0), (1, vI x1), (2, vI x2), (3, vA x3), (4, vI x4), (7, vI x7)]) dX0_fillHeavier_88 (by decide) rfl (j_iinc 6 (lv2 := [(7, vI (x7 + 1)), (5, vL (x5 ||| ((S.setJ x3 (x4).toNat ((S.J x3 (x4).toNat) ||| ((S.J b2 (x4).toNat) &&& x5))).J b4 (x4).toNat))), (0, vA x0), (1, vI x1), (2, vI x2), (3, vA x3), (4, vI x4)]) dX0_fillHeavier_90 rfl (by decide) rfl (j_goto (tgt := 32) dX0_fillHeavier_93 (by decide) (j_sub [2, 3, 4, 5, 6, 1, 0] rfl (ih _ _ _ _ _ _ _ _ h))))))))))))))))))))))))))))))))))))))))
def VX0_fillHeavier_17 (d : Nat) (Q : Out → MS → Prop) : Nat → Nat → Int → Int → Nat → Int → MS → Prop
  | 0, _, _, _, _, _, _ => False
  | n + 1, x0, x1, x2, x3, x4, S => S.K x0 = 0 ∧ ((R32 x4 ∧ R32 (S.I x0 2)) ∧ (((S.I x0 2) ≤ x4) → Q (.inl none) S) ∧ (¬ ((S.I x0 2) ≤ x4) → ∃ m, VX0_fillHeavier_32 d (VX0_fillHeavier_17 d Q n) Q m x0 x1 x2 x3 x4 (0#64) 0 S))
theorem JX0_fillHeavier_17 {d : Nat} {S0 : MS} {Q : Out → MS → Prop} : ∀ (n : Nat) (x0 : Nat) (x1 : Int) (x2 : Int) (x3 : Nat) (x4 : Int) (S : MS), VX0_fillHeavier_17 d Q n x0 x1 x2 x3 x4 S → Jw FinM RX0 cX0_fillHeavier 8 none [] yX0_fillHeavier (d + 1) S0 S 17 [(0, vA x0), (1, vI x1), (2, vI x2), (3, vA x3), (4, vI x4)] [] Q := by
  intro n
  induction n with
  | zero => intro x0 x1 x2 x3 x4 S h; exact h.elim
  | succ n ih =>
    intro x0 x1 x2 x3 x4 S h
    exact j_iload 4 dX0_fillHeavier_17 rfl (j_aload_n 0 dX0_fillHeavier_19 rfl (j_getI 0 2 f_RX0_24 dX0_fillHeavier_20 h (fun h => j_icmp_ge (tgt := 102) dX0_fillHeavier_23 (by decide) h (fun h => j_vret rfl dX0_fillHeavier_102 h) (fun h => j_lconst dX0_fillHeavier_26 rfl (j_lstore (lv2 := [(5, vL (0#64)), (0, vA x0), (1, vI x1), (2, vI x2), (3, vA x3), (4, vI x4)]) dX0_fillHeavier_27 (by decide) rfl (j_iconst dX0_fillHeavier_29 (j_istore (lv2 := [(7, vI 0), (5, vL (0#64)), (0, vA x0), (1, vI x1), (2, vI x2), (3, vA x3), (4, vI x4)]) dX0_fillHeavier_30 (by decide) rfl (Exists.elim h (fun m h => j_sub [2, 3, 4, 5, 6, 1, 0] rfl (JX0_fillHeavier_32 ih m _ _ _ _ _ _ _ _ h))))))))))
def VX0_fillHeavier_0 (d : Nat) (Q : Out → MS → Prop) (x0 : Nat) (x1 : Int) (x2 : Int) (S : MS) : Prop :=
  S.K x0 = 0 ∧ ∃ b1, S.R x0 7 = some b1 ∧ (S.K x0 = 0 ∧ ((S.K b1 = 20 ∧ (17 ≤ 20 ∧ 20 < 21) ∧ 0 ≤ ((x1 * (S.I x0 0)) + x2) ∧ ((x1 * (S.I x0 0)) + x2) < S.N b1) ∧ ∃ b2, S.R b1 (((x1 * (S.I x0 0)) + x2)).toNat = some b2 ∧ (∃ m, VX0_fillHeavier_17 d Q m x0 x1 x2 b2 0 S)))
theorem JX0_fillHeavier_0 {d : Nat} {S0 : MS} {Q : Out → MS → Prop} (x0 : Nat) (x1 : Int) (x2 : Int) (S : MS) (h : VX0_fillHeavier_0 d Q x0 x1 x2 S) : Jw FinM RX0 cX0_fillHeavier 8 none [] yX0_fillHeavier (d + 1) S0 S 0 [(0, vA x0), (1, vI x1), (2, vI x2)] [] Q :=
  j_aload_n 0 dX0_fillHeavier_0 rfl (j_getR 0 7 f_RX0_43 dX0_fillHeavier_1 h (fun b1 h => j_iload_n 1 dX0_fillHeavier_4 rfl (j_aload_n 0 dX0_fillHeavier_5 rfl (j_getI 0 0 f_RX0_17 dX0_fillHeavier_6 h (fun h => j_imul dX0_fillHeavier_9 (j_iload_n 2 dX0_fillHeavier_10 rfl (j_iadd dX0_fillHeavier_11 (j_aald 20 dX0_fillHeavier_12 h (fun b2 h => j_astore_n (lv2 := [(3, vA b2), (0, vA x0), (1, vI x1), (2, vI x2)]) dX0_fillHeavier_13 (by decide) rfl (j_iconst dX0_fillHeavier_14 (j_istore (lv2 := [(4, vI 0), (3, vA b2), (0, vA x0), (1, vI x1), (2, vI x2)]) dX0_fillHeavier_15 (by decide) rfl (Exists.elim h (fun m h => j_sub [2, 3, 4, 1, 0] rfl (JX0_fillHeavier_17 m _ _ _ _ _ _ h))))))))))))))
theorem MX0_fillHeavier {d : Nat} {x0 : Nat} {x1 : Int} {x2 : Int} {S : MS} {Q : Out → MS → Prop} (h : VX0_fillHeavier_0 d Q x0 x1 x2 S) : Mw hX0_fillHeavier yX0_fillHeavier (d + 1) [vA x0, vI x1, vI x2] S Q := Mw.ofJ (by decide) (Nat.le_of_ble_eq_true rfl) (JX0_fillHeavier_0 _ _ _ S h)
theorem dX0_layings_0 : decode cX0_layings 0 = .ok (.aload_n 0, 1) := by decide +kernel
theorem dX0_layings_1 : decode cX0_layings 1 = .ok (.getfield 11, 3) := by decide +kernel
theorem dX0_layings_4 : decode cX0_layings 4 = .ok (.iconst 0, 1) := by decide +kernel
theorem dX0_layings_5 : decode cX0_layings 5 = .ok (.iconst 2, 1) := by decide +kernel
theorem dX0_layings_6 : decode cX0_layings 6 = .ok (.iload_n 1, 1) := by decide +kernel
theorem dX0_layings_7 : decode cX0_layings 7 = .ok (.invokestatic 72, 3) := by decide +kernel
theorem dX0_layings_10 : decode cX0_layings 10 = .ok (.invokestatic 78, 3) := by decide +kernel
theorem dX0_layings_13 : decode cX0_layings 13 = .ok (.aaload, 1) := by decide +kernel
theorem dX0_layings_14 : decode cX0_layings 14 = .ok (.areturn, 1) := by decide +kernel
def VX0_layings_0 (d : Nat) (Q : Out → MS → Prop) (x0 : Nat) (x1 : Int) (S : MS) : Prop :=
  S.K x0 = 0 ∧ ∃ b1, S.R x0 8 = some b1 ∧ ((R32 (2 : Int) ∧ R32 x1) ∧ ((R32 (0 : Int) ∧ R32 (min (2 : Int) x1)) ∧ ((S.K b1 = 18 ∧ (17 ≤ 18 ∧ 18 < 21) ∧ 0 ≤ (max (0 : Int) (min (2 : Int) x1)) ∧ (max (0 : Int) (min (2 : Int) x1)) < S.N b1) ∧ ∃ b2, S.R b1 ((max (0 : Int) (min (2 : Int) x1))).toNat = some b2 ∧ (Q (.inl (some (vA b2))) S))))
theorem JX0_layings_0 {d : Nat} {S0 : MS} {Q : Out → MS → Prop} (x0 : Nat) (x1 : Int) (S : MS) (h : VX0_layings_0 d Q x0 x1 S) : Jw FinM RX0 cX0_layings 2 (some (.object "MiddleScale$Layings")) [] yX0_layings (d + 1) S0 S 0 [(0, vA x0), (1, vI x1)] [] Q :=
  j_aload_n 0 dX0_layings_0 rfl (j_getR 0 8 f_RX0_11 dX0_layings_1 h (fun b1 h => j_iconst dX0_layings_4 (j_iconst dX0_layings_5 (j_iload_n 1 dX0_layings_6 rfl (j_mmin w_2_222 w_2_64 w_1_16 w_mmin (Nat.le_of_ble_eq_true rfl) dX0_layings_7 h (fun h => j_mmax w_2_223 w_2_67 w_1_16 w_mmax (Nat.le_of_ble_eq_true rfl) dX0_layings_10 h (fun h => j_aald 18 dX0_layings_13 h (fun b2 h => j_aret rfl (by first | exact Or.inl ⟨_, rfl⟩ | exact Or.inr ⟨_, rfl⟩) dX0_layings_14 h))))))))
theorem MX0_layings {d : Nat} {x0 : Nat} {x1 : Int} {S : MS} {Q : Out → MS → Prop} (h : VX0_layings_0 d Q x0 x1 S) : Mw hX0_layings yX0_layings (d + 1) [vA x0, vI x1] S Q := Mw.ofJ (by decide) (Nat.le_of_ble_eq_true rfl) (JX0_layings_0 _ _ S h)
theorem dX0_standing_0 : decode cX0_standing 0 = .ok (.aload_n 0, 1) := by decide +kernel
theorem dX0_standing_1 : decode cX0_standing 1 = .ok (.getfield 40, 3) := by decide +kernel
theorem dX0_standing_4 : decode cX0_standing 4 = .ok (.iload_n 1, 1) := by decide +kernel
theorem dX0_standing_5 : decode cX0_standing 5 = .ok (.aload_n 0, 1) := by decide +kernel
theorem dX0_standing_6 : decode cX0_standing 6 = .ok (.getfield 17, 3) := by decide +kernel
theorem dX0_standing_9 : decode cX0_standing 9 = .ok (.imul, 1) := by decide +kernel
theorem dX0_standing_10 : decode cX0_standing 10 = .ok (.iload_n 2, 1) := by decide +kernel
theorem dX0_standing_11 : decode cX0_standing 11 = .ok (.iadd, 1) := by decide +kernel
theorem dX0_standing_12 : decode cX0_standing 12 = .ok (.aaload, 1) := by decide +kernel
theorem dX0_standing_13 : decode cX0_standing 13 = .ok (.areturn, 1) := by decide +kernel
def VX0_standing_0 (d : Nat) (Q : Out → MS → Prop) (x0 : Nat) (x1 : Int) (x2 : Int) (S : MS) : Prop :=
  S.K x0 = 0 ∧ ∃ b1, S.R x0 6 = some b1 ∧ (S.K x0 = 0 ∧ ((S.K b1 = 20 ∧ (17 ≤ 20 ∧ 20 < 21) ∧ 0 ≤ ((x1 * (S.I x0 0)) + x2) ∧ ((x1 * (S.I x0 0)) + x2) < S.N b1) ∧ ∃ b2, S.R b1 (((x1 * (S.I x0 0)) + x2)).toNat = some b2 ∧ (Q (.inl (some (vA b2))) S)))
theorem JX0_standing_0 {d : Nat} {S0 : MS} {Q : Out → MS → Prop} (x0 : Nat) (x1 : Int) (x2 : Int) (S : MS) (h : VX0_standing_0 d Q x0 x1 x2 S) : Jw FinM RX0 cX0_standing 3 (some (.array .long)) [] yX0_standing (d + 1) S0 S 0 [(0, vA x0), (1, vI x1), (2, vI x2)] [] Q :=
  j_aload_n 0 dX0_standing_0 rfl (j_getR 0 6 f_RX0_40 dX0_standing_1 h (fun b1 h => j_iload_n 1 dX0_standing_4 rfl (j_aload_n 0 dX0_standing_5 rfl (j_getI 0 0 f_RX0_17 dX0_standing_6 h (fun h => j_imul dX0_standing_9 (j_iload_n 2 dX0_standing_10 rfl (j_iadd dX0_standing_11 (j_aald 20 dX0_standing_12 h (fun b2 h => j_aret rfl (by first | exact Or.inl ⟨_, rfl⟩ | exact Or.inr ⟨_, rfl⟩) dX0_standing_13 h)))))))))
theorem MX0_standing {d : Nat} {x0 : Nat} {x1 : Int} {x2 : Int} {S : MS} {Q : Out → MS → Prop} (h : VX0_standing_0 d Q x0 x1 x2 S) : Mw hX0_standing yX0_standing (d + 1) [vA x0, vI x1, vI x2] S Q := Mw.ofJ (by decide) (Nat.le_of_ble_eq_true rfl) (JX0_standing_0 _ _ _ S h)
theorem dX0_heavierThan_0 : decode cX0_heavierThan 0 = .ok (.aload_n 0, 1) := by decide +kernel
theorem dX0_heavierThan_1 : decode cX0_heavierThan 1 = .ok (.getfield 43, 3) := by decide +kernel
theorem dX0_heavierThan_4 : decode cX0_heavierThan 4 = .ok (.iload_n 1, 1) := by decide +kernel
theorem dX0_heavierThan_5 : decode cX0_heavierThan 5 = .ok (.aload_n 0, 1) := by decide +kernel
theorem dX0_heavierThan_6 : decode cX0_heavierThan 6 = .ok (.getfield 17, 3) := by decide +kernel
theorem dX0_heavierThan_9 : decode cX0_heavierThan 9 = .ok (.imul, 1) := by decide +kernel
theorem dX0_heavierThan_10 : decode cX0_heavierThan 10 = .ok (.iload_n 2, 1) := by decide +kernel
theorem dX0_heavierThan_11 : decode cX0_heavierThan 11 = .ok (.iadd, 1) := by decide +kernel
theorem dX0_heavierThan_12 : decode cX0_heavierThan 12 = .ok (.aaload, 1) := by decide +kernel
theorem dX0_heavierThan_13 : decode cX0_heavierThan 13 = .ok (.areturn, 1) := by decide +kernel
def VX0_heavierThan_0 (d : Nat) (Q : Out → MS → Prop) (x0 : Nat) (x1 : Int) (x2 : Int) (S : MS) : Prop :=
  S.K x0 = 0 ∧ ∃ b1, S.R x0 7 = some b1 ∧ (S.K x0 = 0 ∧ ((S.K b1 = 20 ∧ (17 ≤ 20 ∧ 20 < 21) ∧ 0 ≤ ((x1 * (S.I x0 0)) + x2) ∧ ((x1 * (S.I x0 0)) + x2) < S.N b1) ∧ ∃ b2, S.R b1 (((x1 * (S.I x0 0)) + x2)).toNat = some b2 ∧ (Q (.inl (some (vA b2))) S)))
theorem JX0_heavierThan_0 {d : Nat} {S0 : MS} {Q : Out → MS → Prop} (x0 : Nat) (x1 : Int) (x2 : Int) (S : MS) (h : VX0_heavierThan_0 d Q x0 x1 x2 S) : Jw FinM RX0 cX0_heavierThan 3 (some (.array .long)) [] yX0_heavierThan (d + 1) S0 S 0 [(0, vA x0), (1, vI x1), (2, vI x2)] [] Q :=
  j_aload_n 0 dX0_heavierThan_0 rfl (j_getR 0 7 f_RX0_43 dX0_heavierThan_1 h (fun b1 h => j_iload_n 1 dX0_heavierThan_4 rfl (j_aload_n 0 dX0_heavierThan_5 rfl (j_getI 0 0 f_RX0_17 dX0_heavierThan_6 h (fun h => j_imul dX0_heavierThan_9 (j_iload_n 2 dX0_heavierThan_10 rfl (j_iadd dX0_heavierThan_11 (j_aald 20 dX0_heavierThan_12 h (fun b2 h => j_aret rfl (by first | exact Or.inl ⟨_, rfl⟩ | exact Or.inr ⟨_, rfl⟩) dX0_heavierThan_13 h)))))))))
theorem MX0_heavierThan {d : Nat} {x0 : Nat} {x1 : Int} {x2 : Int} {S : MS} {Q : Out → MS → Prop} (h : VX0_heavierThan_0 d Q x0 x1 x2 S) : Mw hX0_heavierThan yX0_heavierThan (d + 1) [vA x0, vI x1, vI x2] S Q := Mw.ofJ (by decide) (Nat.le_of_ble_eq_true rfl) (JX0_heavierThan_0 _ _ _ S h)
theorem dX0_packed_0 : decode cX0_packed 0 = .ok (.iload_n 1, 1) := by decide +kernel
theorem dX0_packed_1 : decode cX0_packed 1 = .ok (.ifCond .lt 21, 3) := by decide +kernel
theorem dX0_packed_4 : decode cX0_packed 4 = .ok (.iload_n 1, 1) := by decide +kernel
theorem dX0_packed_5 : decode cX0_packed 5 = .ok (.aload_n 0, 1) := by decide +kernel
theorem dX0_packed_6 : decode cX0_packed 6 = .ok (.getfield 31, 3) := by decide +kernel
theorem dX0_packed_9 : decode cX0_packed 9 = .ok (.arraylength, 1) := by decide +kernel
theorem dX0_packed_10 : decode cX0_packed 10 = .ok (.if_icmp .ge 12, 3) := by decide +kernel
theorem dX0_packed_13 : decode cX0_packed 13 = .ok (.aload_n 0, 1) := by decide +kernel
theorem dX0_packed_14 : decode cX0_packed 14 = .ok (.getfield 31, 3) := by decide +kernel
theorem dX0_packed_17 : decode cX0_packed 17 = .ok (.iload_n 1, 1) := by decide +kernel
theorem dX0_packed_18 : decode cX0_packed 18 = .ok (.iaload, 1) := by decide +kernel
theorem dX0_packed_19 : decode cX0_packed 19 = .ok (.goto 4, 3) := by decide +kernel
theorem dX0_packed_22 : decode cX0_packed 22 = .ok (.iconst 0, 1) := by decide +kernel
theorem dX0_packed_23 : decode cX0_packed 23 = .ok (.ireturn, 1) := by decide +kernel
def VX0_packed_0 (d : Nat) (Q : Out → MS → Prop) (x0 : Nat) (x1 : Int) (S : MS) : Prop :=
  R32 x1 ∧ ((x1 < 0) → Q (.inl (some (vI 0))) S) ∧ (¬ (x1 < 0) → S.K x0 = 0 ∧ ∃ b1, S.R x0 4 = some b1 ∧ ((12 ≤ S.K b1 ∧ S.K b1 < 21) ∧ ((R32 x1 ∧ R32 ((S.N b1 : Int))) ∧ ((((S.N b1 : Int)) ≤ x1) → Q (.inl (some (vI 0))) S) ∧ (¬ (((S.N b1 : Int)) ≤ x1) → S.K x0 = 0 ∧ ∃ b2, S.R x0 4 = some b2 ∧ ((S.K b2 = 13 ∧ 0 ≤ x1 ∧ x1 < S.N b2) ∧ (Q (.inl (some (vI (S.I b2 (x1).toNat)))) S))))))
theorem JX0_packed_0 {d : Nat} {S0 : MS} {Q : Out → MS → Prop} (x0 : Nat) (x1 : Int) (S : MS) (h : VX0_packed_0 d Q x0 x1 S) : Jw FinM RX0 cX0_packed 2 (some .int) [] yX0_packed (d + 1) S0 S 0 [(0, vA x0), (1, vI x1)] [] Q :=
  j_iload_n 1 dX0_packed_0 rfl (j_if_lt (tgt := 22) dX0_packed_1 (by decide) h (fun h => j_iconst dX0_packed_22 (j_iret rfl dX0_packed_23 h)) (fun h => j_iload_n 1 dX0_packed_4 rfl (j_aload_n 0 dX0_packed_5 rfl (j_getR 0 4 f_RX0_31 dX0_packed_6 h (fun b1 h => j_alen dX0_packed_9 h (fun h => j_icmp_ge (tgt := 22) dX0_packed_10 (by decide) h (fun h => j_iconst dX0_packed_22 (j_iret rfl dX0_packed_23 h)) (fun h => j_aload_n 0 dX0_packed_13 rfl (j_getR 0 4 f_RX0_31 dX0_packed_14 h (fun b2 h => j_iload_n 1 dX0_packed_17 rfl (j_iald dX0_packed_18 h (fun h => j_goto (tgt := 23) dX0_packed_19 (by decide) (j_iret rfl dX0_packed_23 h))))))))))))
theorem MX0_packed {d : Nat} {x0 : Nat} {x1 : Int} {S : MS} {Q : Out → MS → Prop} (h : VX0_packed_0 d Q x0 x1 S) : Mw hX0_packed yX0_packed (d + 1) [vA x0, vI x1] S Q := Mw.ofJ (by decide) (Nat.le_of_ble_eq_true rfl) (JX0_packed_0 _ _ S h)
theorem dX0_numberOf_0 : decode cX0_numberOf 0 = .ok (.iconst 0, 1) := by decide +kernel
theorem dX0_numberOf_1 : decode cX0_numberOf 1 = .ok (.istore_n 2, 1) := by decide +kernel
theorem dX0_numberOf_2 : decode cX0_numberOf 2 = .ok (.iconst 0, 1) := by decide +kernel
theorem dX0_numberOf_3 : decode cX0_numberOf 3 = .ok (.istore_n 3, 1) := by decide +kernel
theorem dX0_numberOf_4 : decode cX0_numberOf 4 = .ok (.iconst 0, 1) := by decide +kernel
theorem dX0_numberOf_5 : decode cX0_numberOf 5 = .ok (.istore 4, 2) := by decide +kernel
theorem dX0_numberOf_7 : decode cX0_numberOf 7 = .ok (.iload 4, 2) := by decide +kernel
theorem dX0_numberOf_9 : decode cX0_numberOf 9 = .ok (.aload_n 0, 1) := by decide +kernel
theorem dX0_numberOf_10 : decode cX0_numberOf 10 = .ok (.getfield 17, 3) := by decide +kernel
theorem dX0_numberOf_13 : decode cX0_numberOf 13 = .ok (.if_icmp .ge 53, 3) := by decide +kernel
theorem dX0_numberOf_16 : decode cX0_numberOf 16 = .ok (.iload_n 1, 1) := by decide +kernel
theorem dX0_numberOf_17 : decode cX0_numberOf 17 = .ok (.iload 4, 2) := by decide +kernel
theorem dX0_numberOf_19 : decode cX0_numberOf 19 = .ok (.invokestatic 81, 3) := by decide +kernel
theorem dX0_numberOf_22 : decode cX0_numberOf 22 = .ok (.istore 5, 2) := by decide +kernel
theorem dX0_numberOf_24 : decode cX0_numberOf 24 = .ok (.iload 5, 2) := by decide +kernel
theorem dX0_numberOf_26 : decode cX0_numberOf 26 = .ok (.iload_n 3, 1) := by decide +kernel
theorem dX0_numberOf_27 : decode cX0_numberOf 27 = .ok (.iconst 1, 1) := by decide +kernel
theorem dX0_numberOf_28 : decode cX0_numberOf 28 = .ok (.iload 5, 2) := by decide +kernel
theorem dX0_numberOf_30 : decode cX0_numberOf 30 = .ok (.ishl, 1) := by decide +kernel
theorem dX0_numberOf_31 : decode cX0_numberOf 31 = .ok (.iconst 1, 1) := by decide +kernel
theorem dX0_numberOf_32 : decode cX0_numberOf 32 = .ok (.isub, 1) := by decide +kernel
theorem dX0_numberOf_33 : decode cX0_numberOf 33 = .ok (.iand, 1) := by decide +kernel
theorem dX0_numberOf_34 : decode cX0_numberOf 34 = .ok (.invokestatic 84, 3) := by decide +kernel
theorem dX0_numberOf_37 : decode cX0_numberOf 37 = .ok (.isub, 1) := by decide +kernel
theorem dX0_numberOf_38 : decode cX0_numberOf 38 = .ok (.istore 6, 2) := by decide +kernel
theorem dX0_numberOf_40 : decode cX0_numberOf 40 = .ok (.iload_n 2, 1) := by decide +kernel
theorem dX0_numberOf_41 : decode cX0_numberOf 41 = .ok (.aload_n 0, 1) := by decide +kernel
theorem dX0_numberOf_42 : decode cX0_numberOf 42 = .ok (.getfield 17, 3) := by decide +kernel
theorem dX0_numberOf_45 : decode cX0_numberOf 45 = .ok (.iload 4, 2) := by decide +kernel
theorem dX0_numberOf_47 : decode cX0_numberOf 47 = .ok (.isub, 1) := by decide +kernel
theorem dX0_numberOf_48 : decode cX0_numberOf 48 = .ok (.imul, 1) := by decide +kernel
theorem dX0_numberOf_49 : decode cX0_numberOf 49 = .ok (.iload 6, 2) := by decide +kernel
theorem dX0_numberOf_51 : decode cX0_numberOf 51 = .ok (.iadd, 1) := by decide +kernel
theorem dX0_numberOf_52 : decode cX0_numberOf 52 = .ok (.istore_n 2, 1) := by decide +kernel
theorem dX0_numberOf_53 : decode cX0_numberOf 53 = .ok (.iload_n 3, 1) := by decide +kernel
theorem dX0_numberOf_54 : decode cX0_numberOf 54 = .ok (.iconst 1, 1) := by decide +kernel
theorem dX0_numberOf_55 : decode cX0_numberOf 55 = .ok (.iload 5, 2) := by decide +kernel
theorem dX0_numberOf_57 : decode cX0_numberOf 57 = .ok (.ishl, 1) := by decide +kernel
theorem dX0_numberOf_58 : decode cX0_numberOf 58 = .ok (.ior, 1) := by decide +kernel
theorem dX0_numberOf_59 : decode cX0_numberOf 59 = .ok (.istore_n 3, 1) := by decide +kernel
theorem dX0_numberOf_60 : decode cX0_numberOf 60 = .ok (.iinc 4 1, 3) := by decide +kernel
theorem dX0_numberOf_63 : decode cX0_numberOf 63 = .ok (.goto (-56), 3) := by decide +kernel
theorem dX0_numberOf_66 : decode cX0_numberOf 66 = .ok (.iload_n 2, 1) := by decide +kernel
theorem dX0_numberOf_67 : decode cX0_numberOf 67 = .ok (.ireturn, 1) := by decide +kernel
def VX0_numberOf_7 (d : Nat) (Q : Out → MS → Prop) : Nat → Nat → Int → Int → Int → Int → MS → Prop
  | 0, _, _, _, _, _, _ => False
  | n + 1, x0, x1, x2, x3, x4, S => S.K x0 = 0 ∧ ((R32 x4 ∧ R32 (S.I x0 0)) ∧ (((S.I x0 0) ≤ x4) → Q (.inl (some (vI x2))) S) ∧ (¬ ((S.I x0 0) ≤ x4) → Mw hX10_at yX10_at d [vI x1, vI x4] S (oI (fun r1 S1 => Mw hJ6_bitCount_0f7a4 yJ6_bitCount_0f7a4 d [vI (iAnd x3 ((iShl 1 r1) - 1))] S1 (oI (fun r2 S2 => S2.K x0 = 0 ∧ ((VX0_numberOf_7 d Q n) x0 x1 ((x2 * ((S2.I x0 0) - x4)) + (r1 - r2)) (iOr x3 (iShl 1 r1)) (x4 + 1) S2)))))))
theorem JX0_numberOf_7 {d : Nat} {S0 : MS} {Q : Out → MS → Prop} : ∀ (n : Nat) (x0 : Nat) (x1 : Int) (x2 : Int) (x3 : Int) (x4 : Int) (S : MS), VX0_numberOf_7 d Q n x0 x1 x2 x3 x4 S → Jw FinM RX0 cX0_numberOf 7 (some .int) [] yX0_numberOf (d + 1) S0 S 7 [(0, vA x0), (1, vI x1), (2, vI x2), (3, vI x3), (4, vI x4)] [] Q := by
  intro n
  induction n with
  | zero => intro x0 x1 x2 x3 x4 S h; exact h.elim
  | succ n ih =>
    intro x0 x1 x2 x3 x4 S h
    exact j_iload 4 dX0_numberOf_7 rfl (j_aload_n 0 dX0_numberOf_9 rfl (j_getI 0 0 f_RX0_17 dX0_numberOf_10 h (fun h => j_icmp_ge (tgt := 66) dX0_numberOf_13 (by decide) h (fun h => j_iload_n 2 dX0_numberOf_66 rfl (j_iret rfl dX0_numberOf_67 h)) (fun h => j_iload_n 1 dX0_numberOf_16 rfl (j_iload 4 dX0_numberOf_17 rfl (j_callSN (rest := []) [vI x1, vI x4] k_RX0_81 w_3_82 rfl rfl (Nat.le_of_ble_eq_true rfl) dX0_numberOf_19 h (kI (fun r1 S1 h => j_istore (lv2 := [(5, vI r1), (0, vA x0), (1, vI x1), (2, vI x2), (3, vI x3), (4, vI x4)]) dX0_numberOf_22 (by decide) rfl (j_iload 0 dX0_numberOf_24 rfl (j_iload_n 4 dX0_numberOf_26 rfl (j_iconst dX0_numberOf_27 (j_iload 0 dX0_numberOf_28 rfl (j_ishl dX0_numberOf_30 (j_iconst dX0_numberOf_31 (j_isub dX0_numberOf_32 (j_iand dX0_numberOf_33 (j_callS (rest := [vI r1]) [vI (iAnd x3 ((iShl 1 r1) - 1))] k_RX0_84 w_2_86 rfl rfl (Nat.le_of_ble_eq_true rfl) dX0_numberOf_34 h (kI (fun r2 S2 h => j_isub dX0_numberOf_37 (j_istore (lv2 := [(6, vI (r1 - r2)), (5, vI r1), (0, vA x0), (1, vI x1), (2, vI x2), (3, vI x3), (4, vI x4)]) dX0_numberOf_38 (by decide) rfl (j_iload_n 4 dX0_numberOf_40 rfl (j_aload_n 2 dX0_numberOf_41 rfl (j_getI 0 0 f_RX0_17 dX0_numberOf_42 h (fun h => j_iload 6 dX0_numberOf_45 rfl (j_isub dX0_numberOf_47 (j_imul dX0_numberOf_48 (j_iload 0 dX0_numberOf_49 rfl (j_iadd dX0_numberOf_51 (j_istore_n (lv2 := [(2, vI ((x2 * ((S2.I x0 0) - x4)) + (r1 - r2))), (6, vI (r1 - r2)), (5, vI r1), (0, vA x0), (1, vI x1), (3, vI x3), (4, vI x4)]) dX0_numberOf_52 (by decide) rfl (j_iload_n 5 dX0_numberOf_53 rfl (j_iconst dX0_numberOf_54 (j_iload 2 dX0_numberOf_55 rfl (j_ishl dX0_numberOf_57 (j_ior dX0_numberOf_58 (j_istore_n (lv2 := [(3, vI (iOr x3 (iShl 1 r1))), (2, vI ((x2 * ((S2.I x0 0) - x4)) + (r1 - r2))), (6, vI (r1 - r2)), (5, vI r1), (0, vA x0), (1, vI x1), (4, vI x4)]) dX0_numberOf_59 (by decide) rfl (j_iinc 6 (lv2 := [(4, vI (x4 + 1)), (3, vI (iOr x3 (iShl 1 r1))), (2, vI ((x2 * ((S2.I x0 0) - x4)) + (r1 - r2))), (6, vI (r1 - r2)), (5, vI r1), (0, vA x0), (1, vI x1)]) dX0_numberOf_60 rfl (by decide) rfl (j_goto (tgt := 7) dX0_numberOf_63 (by decide) (j_sub [5, 6, 2, 1, 0] rfl (ih _ _ _ _ _ _ h)))))))))))))))))))))) (fun _ _ h => h.elim))))))))))))))))))
def VX0_numberOf_0 (d : Nat) (Q : Out → MS → Prop) (x0 : Nat) (x1 : Int) (S : MS) : Prop :=
  ∃ m, VX0_numberOf_7 d Q m x0 x1 0 0 0 S
theorem JX0_numberOf_0 {d : Nat} {S0 : MS} {Q : Out → MS → Prop} (x0 : Nat) (x1 : Int) (S : MS) (h : VX0_numberOf_0 d Q x0 x1 S) : Jw FinM RX0 cX0_numberOf 7 (some .int) [] yX0_numberOf (d + 1) S0 S 0 [(0, vA x0), (1, vI x1)] [] Q :=
  j_iconst dX0_numberOf_0 (j_istore_n (lv2 := [(2, vI 0), (0, vA x0), (1, vI x1)]) dX0_numberOf_1 (by decide) rfl (j_iconst dX0_numberOf_2 (j_istore_n (lv2 := [(3, vI 0), (2, vI 0), (0, vA x0), (1, vI x1)]) dX0_numberOf_3 (by decide) rfl (j_iconst dX0_numberOf_4 (j_istore (lv2 := [(4, vI 0), (3, vI 0), (2, vI 0), (0, vA x0), (1, vI x1)]) dX0_numberOf_5 (by decide) rfl (Exists.elim h (fun m h => j_sub [3, 4, 2, 1, 0] rfl (JX0_numberOf_7 m _ _ _ _ _ _ h))))))))
theorem MX0_numberOf {d : Nat} {x0 : Nat} {x1 : Int} {S : MS} {Q : Out → MS → Prop} (h : VX0_numberOf_0 d Q x0 x1 S) : Mw hX0_numberOf yX0_numberOf (d + 1) [vA x0, vI x1] S Q := Mw.ofJ (by decide) (Nat.le_of_ble_eq_true rfl) (JX0_numberOf_0 _ _ S h)
theorem dX0_mirror_0 : decode cX0_mirror 0 = .ok (.iconst 0, 1) := by decide +kernel
theorem dX0_mirror_1 : decode cX0_mirror 1 = .ok (.istore_n 2, 1) := by decide +kernel
theorem dX0_mirror_2 : decode cX0_mirror 2 = .ok (.iconst 0, 1) := by decide +kernel
theorem dX0_mirror_3 : decode cX0_mirror 3 = .ok (.istore_n 3, 1) := by decide +kernel
theorem dX0_mirror_4 : decode cX0_mirror 4 = .ok (.iload_n 3, 1) := by decide +kernel
theorem dX0_mirror_5 : decode cX0_mirror 5 = .ok (.aload_n 0, 1) := by decide +kernel
theorem dX0_mirror_6 : decode cX0_mirror 6 = .ok (.getfield 17, 3) := by decide +kernel
theorem dX0_mirror_9 : decode cX0_mirror 9 = .ok (.if_icmp .ge 28, 3) := by decide +kernel
theorem dX0_mirror_12 : decode cX0_mirror 12 = .ok (.iload_n 2, 1) := by decide +kernel
theorem dX0_mirror_13 : decode cX0_mirror 13 = .ok (.iload_n 1, 1) := by decide +kernel
theorem dX0_mirror_14 : decode cX0_mirror 14 = .ok (.iload_n 3, 1) := by decide +kernel
theorem dX0_mirror_15 : decode cX0_mirror 15 = .ok (.invokestatic 81, 3) := by decide +kernel
theorem dX0_mirror_18 : decode cX0_mirror 18 = .ok (.iconst 3, 1) := by decide +kernel
theorem dX0_mirror_19 : decode cX0_mirror 19 = .ok (.aload_n 0, 1) := by decide +kernel
theorem dX0_mirror_20 : decode cX0_mirror 20 = .ok (.getfield 17, 3) := by decide +kernel
theorem dX0_mirror_23 : decode cX0_mirror 23 = .ok (.iconst 1, 1) := by decide +kernel
theorem dX0_mirror_24 : decode cX0_mirror 24 = .ok (.isub, 1) := by decide +kernel
theorem dX0_mirror_25 : decode cX0_mirror 25 = .ok (.iload_n 3, 1) := by decide +kernel
theorem dX0_mirror_26 : decode cX0_mirror 26 = .ok (.isub, 1) := by decide +kernel
theorem dX0_mirror_27 : decode cX0_mirror 27 = .ok (.imul, 1) := by decide +kernel
theorem dX0_mirror_28 : decode cX0_mirror 28 = .ok (.ishl, 1) := by decide +kernel
theorem dX0_mirror_29 : decode cX0_mirror 29 = .ok (.ior, 1) := by decide +kernel
theorem dX0_mirror_30 : decode cX0_mirror 30 = .ok (.istore_n 2, 1) := by decide +kernel
theorem dX0_mirror_31 : decode cX0_mirror 31 = .ok (.iinc 3 1, 3) := by decide +kernel
theorem dX0_mirror_34 : decode cX0_mirror 34 = .ok (.goto (-30), 3) := by decide +kernel
theorem dX0_mirror_37 : decode cX0_mirror 37 = .ok (.iload_n 2, 1) := by decide +kernel
theorem dX0_mirror_38 : decode cX0_mirror 38 = .ok (.ireturn, 1) := by decide +kernel
def VX0_mirror_4 (d : Nat) (Q : Out → MS → Prop) : Nat → Nat → Int → Int → Int → MS → Prop
  | 0, _, _, _, _, _ => False
  | n + 1, x0, x1, x2, x3, S => S.K x0 = 0 ∧ ((R32 x3 ∧ R32 (S.I x0 0)) ∧ (((S.I x0 0) ≤ x3) → Q (.inl (some (vI x2))) S) ∧ (¬ ((S.I x0 0) ≤ x3) → Mw hX10_at yX10_at d [vI x1, vI x3] S (oI (fun r1 S1 => S1.K x0 = 0 ∧ ((VX0_mirror_4 d Q n) x0 x1 (iOr x2 (iShl r1 (3 * (((S1.I x0 0) - 1) - x3)))) (x3 + 1) S1)))))
theorem JX0_mirror_4 {d : Nat} {S0 : MS} {Q : Out → MS → Prop} : ∀ (n : Nat) (x0 : Nat) (x1 : Int) (x2 : Int) (x3 : Int) (S : MS), VX0_mirror_4 d Q n x0 x1 x2 x3 S → Jw FinM RX0 cX0_mirror 4 (some .int) [] yX0_mirror (d + 1) S0 S 4 [(0, vA x0), (1, vI x1), (2, vI x2), (3, vI x3)] [] Q := by
  intro n
  induction n with
  | zero => intro x0 x1 x2 x3 S h; exact h.elim
  | succ n ih =>
    intro x0 x1 x2 x3 S h
    exact j_iload_n 3 dX0_mirror_4 rfl (j_aload_n 0 dX0_mirror_5 rfl (j_getI 0 0 f_RX0_17 dX0_mirror_6 h (fun h => j_icmp_ge (tgt := 37) dX0_mirror_9 (by decide) h (fun h => j_iload_n 2 dX0_mirror_37 rfl (j_iret rfl dX0_mirror_38 h)) (fun h => j_iload_n 2 dX0_mirror_12 rfl (j_iload_n 1 dX0_mirror_13 rfl (j_iload_n 3 dX0_mirror_14 rfl (j_callSN (rest := [vI x2]) [vI x1, vI x3] k_RX0_81 w_3_82 rfl rfl (Nat.le_of_ble_eq_true rfl) dX0_mirror_15 h (kI (fun r1 S1 h => j_iconst dX0_mirror_18 (j_aload_n 0 dX0_mirror_19 rfl (j_getI 0 0 f_RX0_17 dX0_mirror_20 h (fun h => j_iconst dX0_mirror_23 (j_isub dX0_mirror_24 (j_iload_n 3 dX0_mirror_25 rfl (j_isub dX0_mirror_26 (j_imul dX0_mirror_27 (j_ishl dX0_mirror_28 (j_ior dX0_mirror_29 (j_istore_n (lv2 := [(2, vI (iOr x2 (iShl r1 (3 * (((S1.I x0 0) - 1) - x3))))), (0, vA x0), (1, vI x1), (3, vI x3)]) dX0_mirror_30 (by decide) rfl (j_iinc 3 (lv2 := [(3, vI (x3 + 1)), (2, vI (iOr x2 (iShl r1 (3 * (((S1.I x0 0) - 1) - x3))))), (0, vA x0), (1, vI x1)]) dX0_mirror_31 rfl (by decide) rfl (j_goto (tgt := 4) dX0_mirror_34 (by decide) (j_sub [2, 3, 1, 0] rfl (ih _ _ _ _ _ h)))))))))))))))))))))))
def VX0_mirror_0 (d : Nat) (Q : Out → MS → Prop) (x0 : Nat) (x1 : Int) (S : MS) : Prop :=
  ∃ m, VX0_mirror_4 d Q m x0 x1 0 0 S
theorem JX0_mirror_0 {d : Nat} {S0 : MS} {Q : Out → MS → Prop} (x0 : Nat) (x1 : Int) (S : MS) (h : VX0_mirror_0 d Q x0 x1 S) : Jw FinM RX0 cX0_mirror 4 (some .int) [] yX0_mirror (d + 1) S0 S 0 [(0, vA x0), (1, vI x1)] [] Q :=
  j_iconst dX0_mirror_0 (j_istore_n (lv2 := [(2, vI 0), (0, vA x0), (1, vI x1)]) dX0_mirror_1 (by decide) rfl (j_iconst dX0_mirror_2 (j_istore_n (lv2 := [(3, vI 0), (2, vI 0), (0, vA x0), (1, vI x1)]) dX0_mirror_3 (by decide) rfl (Exists.elim h (fun m h => j_sub [2, 3, 1, 0] rfl (JX0_mirror_4 m _ _ _ _ _ h))))))
theorem MX0_mirror {d : Nat} {x0 : Nat} {x1 : Int} {S : MS} {Q : Out → MS → Prop} (h : VX0_mirror_0 d Q x0 x1 S) : Mw hX0_mirror yX0_mirror (d + 1) [vA x0, vI x1] S Q := Mw.ofJ (by decide) (Nat.le_of_ble_eq_true rfl) (JX0_mirror_0 _ _ S h)
theorem dX0_areKnown_0 : decode cX0_areKnown 0 = .ok (.aload_n 1, 1) := by decide +kernel
theorem dX0_areKnown_1 : decode cX0_areKnown 1 = .ok (.getfield 90, 3) := by decide +kernel
theorem dX0_areKnown_4 : decode cX0_areKnown 4 = .ok (.iconst 2, 1) := by decide +kernel
theorem dX0_areKnown_5 : decode cX0_areKnown 5 = .ok (.if_icmp .eq 17, 3) := by decide +kernel
theorem dX0_areKnown_8 : decode cX0_areKnown 8 = .ok (.aload_n 1, 1) := by decide +kernel
theorem dX0_areKnown_9 : decode cX0_areKnown 9 = .ok (.getfield 90, 3) := by decide +kernel
theorem dX0_areKnown_12 : decode cX0_areKnown 12 = .ok (.iconst 1, 1) := by decide +kernel
theorem dX0_areKnown_13 : decode cX0_areKnown 13 = .ok (.if_icmp .ne 7, 3) := by decide +kernel
theorem dX0_areKnown_16 : decode cX0_areKnown 16 = .ok (.iconst 1, 1) := by decide +kernel
theorem dX0_areKnown_17 : decode cX0_areKnown 17 = .ok (.goto 4, 3) := by decide +kernel
theorem dX0_areKnown_20 : decode cX0_areKnown 20 = .ok (.iconst 0, 1) := by decide +kernel
theorem dX0_areKnown_21 : decode cX0_areKnown 21 = .ok (.ireturn, 1) := by decide +kernel
theorem dX0_areKnown_22 : decode cX0_areKnown 22 = .ok (.aload_n 0, 1) := by decide +kernel
theorem dX0_areKnown_23 : decode cX0_areKnown 23 = .ok (.aload_n 0, 1) := by decide +kernel
theorem dX0_areKnown_24 : decode cX0_areKnown 24 = .ok (.aload_n 1, 1) := by decide +kernel
theorem dX0_areKnown_25 : decode cX0_areKnown 25 = .ok (.iconst 0, 1) := by decide +kernel
theorem dX0_areKnown_26 : decode cX0_areKnown 26 = .ok (.invokevirtual 93, 3) := by decide +kernel
theorem dX0_areKnown_29 : decode cX0_areKnown 29 = .ok (.invokevirtual 96, 3) := by decide +kernel
theorem dX0_areKnown_32 : decode cX0_areKnown 32 = .ok (.invokevirtual 99, 3) := by decide +kernel
theorem dX0_areKnown_35 : decode cX0_areKnown 35 = .ok (.aload_n 0, 1) := by decide +kernel
theorem dX0_areKnown_36 : decode cX0_areKnown 36 = .ok (.aload_n 1, 1) := by decide +kernel
theorem dX0_areKnown_37 : decode cX0_areKnown 37 = .ok (.iconst 1, 1) := by decide +kernel
theorem dX0_areKnown_38 : decode cX0_areKnown 38 = .ok (.invokevirtual 93, 3) := by decide +kernel
theorem dX0_areKnown_41 : decode cX0_areKnown 41 = .ok (.invokevirtual 96, 3) := by decide +kernel
theorem dX0_areKnown_44 : decode cX0_areKnown 44 = .ok (.if_icmp .ne 7, 3) := by decide +kernel
theorem dX0_areKnown_47 : decode cX0_areKnown 47 = .ok (.iconst 1, 1) := by decide +kernel
theorem dX0_areKnown_48 : decode cX0_areKnown 48 = .ok (.goto 4, 3) := by decide +kernel
theorem dX0_areKnown_51 : decode cX0_areKnown 51 = .ok (.iconst 0, 1) := by decide +kernel
theorem dX0_areKnown_52 : decode cX0_areKnown 52 = .ok (.ireturn, 1) := by decide +kernel
def VX0_areKnown_0 (d : Nat) (Q : Out → MS → Prop) (x0 : Nat) (x1 : Nat) (S : MS) : Prop :=
  S.K x1 = 5 ∧ ((R32 (S.I x1 0) ∧ R32 (2 : Int)) ∧ (((S.I x1 0) = (2 : Int)) → S.K x1 = 5 ∧ Mw hX5_numberAt yX5_numberAt d [vA x1, vI 0] S (oI (fun r1 S1 => S1.K x0 = 0 ∧ Mw hX0_packed yX0_packed d [vA x0, vI r1] S1 (oI (fun r2 S2 => S2.K x0 = 0 ∧ Mw hX0_mirror yX0_mirror d [vA x0, vI r2] S2 (oI (fun r3 S3 => S3.K x1 = 5 ∧ Mw hX5_numberAt yX5_numberAt d [vA x1, vI 1] S3 (oI (fun r4 S4 => S4.K x0 = 0 ∧ Mw hX0_packed yX0_packed d [vA x0, vI r4] S4 (oI (fun r5 S5 => (R32 r3 ∧ R32 r5) ∧ (¬ (r3 = r5) → B01 0 ∧ Q (.inl (some (vI 0))) S5) ∧ ((r3 = r5) → B01 1 ∧ Q (.inl (some (vI 1))) S5)))))))))))) ∧ (¬ ((S.I x1 0) = (2 : Int)) → S.K x1 = 5 ∧ ((R32 (S.I x1 0) ∧ R32 (1 : Int)) ∧ (¬ ((S.I x1 0) = (1 : Int)) → B01 0 ∧ Q (.inl (some (vI 0))) S) ∧ (((S.I x1 0) = (1 : Int)) → B01 1 ∧ Q (.inl (some (vI 1))) S))))
theorem JX0_areKnown_0 {d : Nat} {S0 : MS} {Q : Out → MS → Prop} (x0 : Nat) (x1 : Nat) (S : MS) (h : VX0_areKnown_0 d Q x0 x1 S) : Jw FinM RX0 cX0_areKnown 2 (some .boolean) [] yX0_areKnown (d + 1) S0 S 0 [(0, vA x0), (1, vA x1)] [] Q :=
  j_aload_n 1 dX0_areKnown_0 rfl (j_getI 5 0 f_RX0_90 dX0_areKnown_1 h (fun h => j_iconst dX0_areKnown_4 (j_icmp_eq (tgt := 22) dX0_areKnown_5 (by decide) h (fun h => j_aload_n 0 dX0_areKnown_22 rfl (j_aload_n 0 dX0_areKnown_23 rfl (j_aload_n 1 dX0_areKnown_24 rfl (j_iconst dX0_areKnown_25 (j_callV (rest := [vA x0, vA x0]) 5 [vI 0] k_RX0_93 ⟨w_3_67, w_3_68⟩ ⟨_, _, rfl⟩ (by decide) rfl rfl (Nat.le_of_ble_eq_true rfl) dX0_areKnown_26 h (kI (fun r1 S1 h => j_callV (rest := [vA x0]) 0 [vI r1] k_RX0_96 ⟨w_3_74, w_3_75⟩ ⟨_, _, rfl⟩ (by decide) rfl rfl (Nat.le_of_ble_eq_true rfl) dX0_areKnown_29 h (kI (fun r2 S2 h => j_callV (rest := []) 0 [vI r2] k_RX0_99 ⟨w_3_78, w_3_79⟩ ⟨_, _, rfl⟩ (by decide) rfl rfl (Nat.le_of_ble_eq_true rfl) dX0_areKnown_32 h (kI (fun r3 S3 h => j_aload_n 0 dX0_areKnown_35 rfl (j_aload_n 1 dX0_areKnown_36 rfl (j_iconst dX0_areKnown_37 (j_callV (rest := [vA x0, vI r3]) 5 [vI 1] k_RX0_93 ⟨w_3_67, w_3_68⟩ ⟨_, _, rfl⟩ (by decide) rfl rfl (Nat.le_of_ble_eq_true rfl) dX0_areKnown_38 h (kI (fun r4 S4 h => j_callV (rest := [vI r3]) 0 [vI r4] k_RX0_96 ⟨w_3_74, w_3_75⟩ ⟨_, _, rfl⟩ (by decide) rfl rfl (Nat.le_of_ble_eq_true rfl) dX0_areKnown_41 h (kI (fun r5 S5 h => j_icmp_ne (tgt := 51) dX0_areKnown_44 (by decide) h (fun h => j_iconst dX0_areKnown_51 (j_zret rfl dX0_areKnown_52 h)) (fun h => j_iconst dX0_areKnown_47 (j_goto (tgt := 52) dX0_areKnown_48 (by decide) (j_zret rfl dX0_areKnown_52 h))))) (fun _ _ h => h.elim))) (fun _ _ h => h.elim)))))) (fun _ _ h => h.elim))) (fun _ _ h => h.elim))) (fun _ _ h => h.elim)))))) (fun h => j_aload_n 1 dX0_areKnown_8 rfl (j_getI 5 0 f_RX0_90 dX0_areKnown_9 h (fun h => j_iconst dX0_areKnown_12 (j_icmp_ne (tgt := 20) dX0_areKnown_13 (by decide) h (fun h => j_iconst dX0_areKnown_20 (j_zret rfl dX0_areKnown_21 h)) (fun h => j_iconst dX0_areKnown_16 (j_goto (tgt := 21) dX0_areKnown_17 (by decide) (j_zret rfl dX0_areKnown_21 h))))))))))
theorem MX0_areKnown {d : Nat} {x0 : Nat} {x1 : Nat} {S : MS} {Q : Out → MS → Prop} (h : VX0_areKnown_0 d Q x0 x1 S) : Mw hX0_areKnown yX0_areKnown (d + 1) [vA x0, vA x1] S Q := Mw.ofJ (by decide) (Nat.le_of_ble_eq_true rfl) (JX0_areKnown_0 _ _ S h)
theorem dX0_mirrored_0 : decode cX0_mirrored 0 = .ok (.aload_n 1, 1) := by decide +kernel
theorem dX0_mirrored_1 : decode cX0_mirrored 1 = .ok (.aload_n 0, 1) := by decide +kernel
theorem dX0_mirrored_2 : decode cX0_mirrored 2 = .ok (.getfield 35, 3) := by decide +kernel
theorem dX0_mirrored_5 : decode cX0_mirrored 5 = .ok (.invokevirtual 102, 3) := by decide +kernel
theorem dX0_mirrored_8 : decode cX0_mirrored 8 = .ok (.istore_n 2, 1) := by decide +kernel
theorem dX0_mirrored_9 : decode cX0_mirrored 9 = .ok (.iconst 0, 1) := by decide +kernel
theorem dX0_mirrored_10 : decode cX0_mirrored 10 = .ok (.istore_n 3, 1) := by decide +kernel
theorem dX0_mirrored_11 : decode cX0_mirrored 11 = .ok (.iconst 0, 1) := by decide +kernel
theorem dX0_mirrored_12 : decode cX0_mirrored 12 = .ok (.istore 4, 2) := by decide +kernel
theorem dX0_mirrored_14 : decode cX0_mirrored 14 = .ok (.iload 4, 2) := by decide +kernel
theorem dX0_mirrored_16 : decode cX0_mirrored 16 = .ok (.iload_n 2, 1) := by decide +kernel
theorem dX0_mirrored_17 : decode cX0_mirrored 17 = .ok (.if_icmp .ge 43, 3) := by decide +kernel
theorem dX0_mirrored_20 : decode cX0_mirrored 20 = .ok (.iload_n 3, 1) := by decide +kernel
theorem dX0_mirrored_21 : decode cX0_mirrored 21 = .ok (.aload_n 1, 1) := by decide +kernel
theorem dX0_mirrored_22 : decode cX0_mirrored 22 = .ok (.aload_n 0, 1) := by decide +kernel
theorem dX0_mirrored_23 : decode cX0_mirrored 23 = .ok (.aload_n 0, 1) := by decide +kernel
theorem dX0_mirrored_24 : decode cX0_mirrored 24 = .ok (.aload_n 0, 1) := by decide +kernel
theorem dX0_mirrored_25 : decode cX0_mirrored 25 = .ok (.aload_n 0, 1) := by decide +kernel
theorem dX0_mirrored_26 : decode cX0_mirrored 26 = .ok (.getfield 35, 3) := by decide +kernel
theorem dX0_mirrored_29 : decode cX0_mirrored 29 = .ok (.iload 4, 2) := by decide +kernel
theorem dX0_mirrored_31 : decode cX0_mirrored 31 = .ok (.iaload, 1) := by decide +kernel
theorem dX0_mirrored_32 : decode cX0_mirrored 32 = .ok (.invokevirtual 96, 3) := by decide +kernel
theorem dX0_mirrored_35 : decode cX0_mirrored 35 = .ok (.invokevirtual 99, 3) := by decide +kernel
theorem dX0_mirrored_38 : decode cX0_mirrored 38 = .ok (.invokevirtual 105, 3) := by decide +kernel
theorem dX0_mirrored_41 : decode cX0_mirrored 41 = .ok (.invokevirtual 108, 3) := by decide +kernel
theorem dX0_mirrored_44 : decode cX0_mirrored 44 = .ok (.ifCond .eq 7, 3) := by decide +kernel
theorem dX0_mirrored_47 : decode cX0_mirrored 47 = .ok (.iconst 1, 1) := by decide +kernel
theorem dX0_mirrored_48 : decode cX0_mirrored 48 = .ok (.goto 4, 3) := by decide +kernel
theorem dX0_mirrored_51 : decode cX0_mirrored 51 = .ok (.iconst 0, 1) := by decide +kernel
theorem dX0_mirrored_52 : decode cX0_mirrored 52 = .ok (.iadd, 1) := by decide +kernel
theorem dX0_mirrored_53 : decode cX0_mirrored 53 = .ok (.istore_n 3, 1) := by decide +kernel
theorem dX0_mirrored_54 : decode cX0_mirrored 54 = .ok (.iinc 4 1, 3) := by decide +kernel
theorem dX0_mirrored_57 : decode cX0_mirrored 57 = .ok (.goto (-43), 3) := by decide +kernel
theorem dX0_mirrored_60 : decode cX0_mirrored 60 = .ok (.iload_n 3, 1) := by decide +kernel
theorem dX0_mirrored_61 : decode cX0_mirrored 61 = .ok (.ireturn, 1) := by decide +kernel
def VX0_mirrored_52 (d : Nat) (c14 : Nat → Nat → Int → Int → Int → MS → Prop) (Q : Out → MS → Prop) (x0 : Nat) (x1 : Nat) (x2 : Int) (x4 : Int) (t0 : Int) (t1 : Int) (S : MS) : Prop :=
  c14 x0 x1 x2 (t1 + t0) (x4 + 1) S
theorem JX0_mirrored_52 {d : Nat} {c14 : Nat → Nat → Int → Int → Int → MS → Prop} {S0 : MS} {Q : Out → MS → Prop} (hc14 : ∀ (x0 : Nat) (x1 : Nat) (x2 : Int) (x3 : Int) (x4 : Int) (S : MS), c14 x0 x1 x2 x3 x4 S → Jw FinM RX0 cX0_mirrored 5 (some .int) [] yX0_mirrored (d + 1) S0 S 14 [(0, vA x0), (1, vA x1), (2, vI x2), (3, vI x3), (4, vI x4)] [] Q) (x0 : Nat) (x1 : Nat) (x2 : Int) (x4 : Int) (t0 : Int) (t1 : Int) (S : MS) (h : VX0_mirrored_52 d c14 Q x0 x1 x2 x4 t0 t1 S) : Jw FinM RX0 cX0_mirrored 5 (some .int) [] yX0_mirrored (d + 1) S0 S 52 [(0, vA x0), (1, vA x1), (2, vI x2), (4, vI x4)] [vI t0, vI t1] Q :=
  j_iadd dX0_mirrored_52 (j_istore_n (lv2 := [(3, vI (t1 + t0)), (0, vA x0), (1, vA x1), (2, vI x2), (4, vI x4)]) dX0_mirrored_53 (by decide) rfl (j_iinc 4 (lv2 := [(4, vI (x4 + 1)), (3, vI (t1 + t0)), (0, vA x0), (1, vA x1), (2, vI x2)]) dX0_mirrored_54 rfl (by decide) rfl (j_goto (tgt := 14) dX0_mirrored_57 (by decide) (j_sub [2, 3, 4, 1, 0] rfl (hc14 _ _ _ _ _ _ h)))))
def VX0_mirrored_14 (d : Nat) (Q : Out → MS → Prop) : Nat → Nat → Nat → Int → Int → Int → MS → Prop
  | 0, _, _, _, _, _, _ => False
  | n + 1, x0, x1, x2, x3, x4, S => (R32 x4 ∧ R32 x2) ∧ ((x2 ≤ x4) → Q (.inl (some (vI x3))) S) ∧ (¬ (x2 ≤ x4) → S.K x0 = 0 ∧ ∃ b1, S.R x0 5 = some b1 ∧ ((S.K b1 = 13 ∧ 0 ≤ x4 ∧ x4 < S.N b1) ∧ (S.K x0 = 0 ∧ Mw hX0_packed yX0_packed d [vA x0, vI (S.I b1 (x4).toNat)] S (oI (fun r2 S2 => S2.K x0 = 0 ∧ Mw hX0_mirror yX0_mirror d [vA x0, vI r2] S2 (oI (fun r3 S3 => S3.K x0 = 0 ∧ Mw hX0_numberOf yX0_numberOf d [vA x0, vI r3] S3 (oI (fun r4 S4 => S4.K x1 = 5 ∧ Mw hX5_has yX5_has d [vA x1, vI r4] S4 (oI (fun r5 S5 => R32 r5 ∧ ((r5 = 0) → VX0_mirrored_52 d (VX0_mirrored_14 d Q n) Q x0 x1 x2 x4 0 x3 S5) ∧ (¬ (r5 = 0) → VX0_mirrored_52 d (VX0_mirrored_14 d Q n) Q x0 x1 x2 x4 1 x3 S5))))))))))))
theorem JX0_mirrored_14 {d : Nat} {S0 : MS} {Q : Out → MS → Prop} : ∀ (n : Nat) (x0 : Nat) (x1 : Nat) (x2 : Int) (x3 : Int) (x4 : Int) (S : MS), VX0_mirrored_14 d Q n x0 x1 x2 x3 x4 S → Jw FinM RX0 cX0_mirrored 5 (some .int) [] yX0_mirrored (d + 1) S0 S 14 [(0, vA x0), (1, vA x1), (2, vI x2), (3, vI x3), (4, vI x4)] [] Q := by
  intro n
  induction n with
  | zero => intro x0 x1 x2 x3 x4 S h; exact h.elim
  | succ n ih =>
    intro x0 x1 x2 x3 x4 S h
    exact j_iload 4 dX0_mirrored_14 rfl (j_iload_n 2 dX0_mirrored_16 rfl (j_icmp_ge (tgt := 60) dX0_mirrored_17 (by decide) h (fun h => j_iload_n 3 dX0_mirrored_60 rfl (j_iret rfl dX0_mirrored_61 h)) (fun h => j_iload_n 3 dX0_mirrored_20 rfl (j_aload_n 1 dX0_mirrored_21 rfl (j_aload_n 0 dX0_mirrored_22 rfl (j_aload_n 0 dX0_mirrored_23 rfl (j_aload_n 0 dX0_mirrored_24 rfl (j_aload_n 0 dX0_mirrored_25 rfl (j_getR 0 5 f_RX0_35 dX0_mirrored_26 h (fun b1 h => j_iload 4 dX0_mirrored_29 rfl (j_iald dX0_mirrored_31 h (fun h => j_callV (rest := [vA x0, vA x0, vA x1, vI x3]) 0 [vI (S.I b1 (x4).toNat)] k_RX0_96 ⟨w_3_74, w_3_75⟩ ⟨_, _, rfl⟩ (by decide) rfl rfl (Nat.le_of_ble_eq_true rfl) dX0_mirrored_32 h (kI (fun r2 S2 h => j_callV (rest := [vA x0, vA x1, vI x3]) 0 [vI r2] k_RX0_99 ⟨w_3_78, w_3_79⟩ ⟨_, _, rfl⟩ (by decide) rfl rfl (Nat.le_of_ble_eq_true rfl) dX0_mirrored_35 h (kI (fun r3 S3 h => j_callV (rest := [vA x1, vI x3]) 0 [vI r3] k_RX0_105 ⟨w_4_1, w_4_2⟩ ⟨_, _, rfl⟩ (by decide) rfl rfl (Nat.le_of_ble_eq_true rfl) dX0_mirrored_38 h (kI (fun r4 S4 h => j_callV (rest := [vI x3]) 5 [vI r4] k_RX0_108 ⟨w_4_5, w_4_6⟩ ⟨_, _, rfl⟩ (by decide) rfl rfl (Nat.le_of_ble_eq_true rfl) dX0_mirrored_41 h (kI (fun r5 S5 h => j_if_eq (tgt := 51) dX0_mirrored_44 (by decide) h (fun h => j_iconst dX0_mirrored_51 (j_sub [0, 1, 2, 4] rfl (JX0_mirrored_52 ih _ _ _ _ _ _ _ h))) (fun h => j_iconst dX0_mirrored_47 (j_goto (tgt := 52) dX0_mirrored_48 (by decide) (j_sub [0, 1, 2, 4] rfl (JX0_mirrored_52 ih _ _ _ _ _ _ _ h)))))) (fun _ _ h => h.elim))) (fun _ _ h => h.elim))) (fun _ _ h => h.elim))) (fun _ _ h => h.elim)))))))))))))
def VX0_mirrored_0 (d : Nat) (Q : Out → MS → Prop) (x0 : Nat) (x1 : Nat) (S : MS) : Prop :=
  S.K x0 = 0 ∧ ∃ b1, S.R x0 5 = some b1 ∧ (S.K x1 = 5 ∧ Mw hX5_list yX5_list d [vA x1, vA b1] S (oI (fun r2 S2 => ∃ m, VX0_mirrored_14 d Q m x0 x1 r2 0 0 S2)))
theorem JX0_mirrored_0 {d : Nat} {S0 : MS} {Q : Out → MS → Prop} (x0 : Nat) (x1 : Nat) (S : MS) (h : VX0_mirrored_0 d Q x0 x1 S) : Jw FinM RX0 cX0_mirrored 5 (some .int) [] yX0_mirrored (d + 1) S0 S 0 [(0, vA x0), (1, vA x1)] [] Q :=
  j_aload_n 1 dX0_mirrored_0 rfl (j_aload_n 0 dX0_mirrored_1 rfl (j_getR 0 5 f_RX0_35 dX0_mirrored_2 h (fun b1 h => j_callV (rest := []) 5 [vA b1] k_RX0_102 ⟨w_3_237, w_3_238⟩ ⟨_, _, rfl⟩ (by decide) rfl rfl (Nat.le_of_ble_eq_true rfl) dX0_mirrored_5 h (kI (fun r2 S2 h => j_istore_n (lv2 := [(2, vI r2), (0, vA x0), (1, vA x1)]) dX0_mirrored_8 (by decide) rfl (j_iconst dX0_mirrored_9 (j_istore_n (lv2 := [(3, vI 0), (2, vI r2), (0, vA x0), (1, vA x1)]) dX0_mirrored_10 (by decide) rfl (j_iconst dX0_mirrored_11 (j_istore (lv2 := [(4, vI 0), (3, vI 0), (2, vI r2), (0, vA x0), (1, vA x1)]) dX0_mirrored_12 (by decide) rfl (Exists.elim h (fun m h => j_sub [3, 4, 2, 1, 0] rfl (JX0_mirrored_14 m _ _ _ _ _ _ h))))))))) (fun _ _ h => h.elim))))
theorem MX0_mirrored {d : Nat} {x0 : Nat} {x1 : Nat} {S : MS} {Q : Out → MS → Prop} (h : VX0_mirrored_0 d Q x0 x1 S) : Mw hX0_mirrored yX0_mirrored (d + 1) [vA x0, vA x1] S Q := Mw.ofJ (by decide) (Nat.le_of_ble_eq_true rfl) (JX0_mirrored_0 _ _ S h)
theorem dX0_placesOf_0 : decode cX0_placesOf 0 = .ok (.iconst 0, 1) := by decide +kernel
theorem dX0_placesOf_1 : decode cX0_placesOf 1 = .ok (.istore_n 3, 1) := by decide +kernel
theorem dX0_placesOf_2 : decode cX0_placesOf 2 = .ok (.iconst 0, 1) := by decide +kernel
theorem dX0_placesOf_3 : decode cX0_placesOf 3 = .ok (.istore 4, 2) := by decide +kernel
theorem dX0_placesOf_5 : decode cX0_placesOf 5 = .ok (.iload 4, 2) := by decide +kernel
theorem dX0_placesOf_7 : decode cX0_placesOf 7 = .ok (.aload_n 0, 1) := by decide +kernel
theorem dX0_placesOf_8 : decode cX0_placesOf 8 = .ok (.getfield 17, 3) := by decide +kernel
theorem dX0_placesOf_11 : decode cX0_placesOf 11 = .ok (.if_icmp .ge 34, 3) := by decide +kernel
theorem dX0_placesOf_14 : decode cX0_placesOf 14 = .ok (.iload_n 3, 1) := by decide +kernel
theorem dX0_placesOf_15 : decode cX0_placesOf 15 = .ok (.aload_n 1, 1) := by decide +kernel
theorem dX0_placesOf_16 : decode cX0_placesOf 16 = .ok (.aload_n 0, 1) := by decide +kernel
theorem dX0_placesOf_17 : decode cX0_placesOf 17 = .ok (.iload_n 2, 1) := by decide +kernel
theorem dX0_placesOf_18 : decode cX0_placesOf 18 = .ok (.iload 4, 2) := by decide +kernel
theorem dX0_placesOf_20 : decode cX0_placesOf 20 = .ok (.invokevirtual 112, 3) := by decide +kernel
theorem dX0_placesOf_23 : decode cX0_placesOf 23 = .ok (.invokevirtual 116, 3) := by decide +kernel
theorem dX0_placesOf_26 : decode cX0_placesOf 26 = .ok (.ifCond .eq 10, 3) := by decide +kernel
theorem dX0_placesOf_29 : decode cX0_placesOf 29 = .ok (.iconst 1, 1) := by decide +kernel
theorem dX0_placesOf_30 : decode cX0_placesOf 30 = .ok (.iload 4, 2) := by decide +kernel
theorem dX0_placesOf_32 : decode cX0_placesOf 32 = .ok (.ishl, 1) := by decide +kernel
theorem dX0_placesOf_33 : decode cX0_placesOf 33 = .ok (.goto 4, 3) := by decide +kernel
theorem dX0_placesOf_36 : decode cX0_placesOf 36 = .ok (.iconst 0, 1) := by decide +kernel
theorem dX0_placesOf_37 : decode cX0_placesOf 37 = .ok (.ior, 1) := by decide +kernel
theorem dX0_placesOf_38 : decode cX0_placesOf 38 = .ok (.istore_n 3, 1) := by decide +kernel
theorem dX0_placesOf_39 : decode cX0_placesOf 39 = .ok (.iinc 4 1, 3) := by decide +kernel
theorem dX0_placesOf_42 : decode cX0_placesOf 42 = .ok (.goto (-37), 3) := by decide +kernel
theorem dX0_placesOf_45 : decode cX0_placesOf 45 = .ok (.iload_n 3, 1) := by decide +kernel
theorem dX0_placesOf_46 : decode cX0_placesOf 46 = .ok (.ireturn, 1) := by decide +kernel
def VX0_placesOf_37 (d : Nat) (c5 : Nat → Nat → Int → Int → Int → MS → Prop) (Q : Out → MS → Prop) (x0 : Nat) (x1 : Nat) (x2 : Int) (x4 : Int) (t0 : Int) (t1 : Int) (S : MS) : Prop :=
  c5 x0 x1 x2 (iOr t1 t0) (x4 + 1) S
theorem JX0_placesOf_37 {d : Nat} {c5 : Nat → Nat → Int → Int → Int → MS → Prop} {S0 : MS} {Q : Out → MS → Prop} (hc5 : ∀ (x0 : Nat) (x1 : Nat) (x2 : Int) (x3 : Int) (x4 : Int) (S : MS), c5 x0 x1 x2 x3 x4 S → Jw FinM RX0 cX0_placesOf 5 (some .int) [] yX0_placesOf (d + 1) S0 S 5 [(0, vA x0), (1, vA x1), (2, vI x2), (3, vI x3), (4, vI x4)] [] Q) (x0 : Nat) (x1 : Nat) (x2 : Int) (x4 : Int) (t0 : Int) (t1 : Int) (S : MS) (h : VX0_placesOf_37 d c5 Q x0 x1 x2 x4 t0 t1 S) : Jw FinM RX0 cX0_placesOf 5 (some .int) [] yX0_placesOf (d + 1) S0 S 37 [(0, vA x0), (1, vA x1), (2, vI x2), (4, vI x4)] [vI t0, vI t1] Q :=
  j_ior dX0_placesOf_37 (j_istore_n (lv2 := [(3, vI (iOr t1 t0)), (0, vA x0), (1, vA x1), (2, vI x2), (4, vI x4)]) dX0_placesOf_38 (by decide) rfl (j_iinc 4 (lv2 := [(4, vI (x4 + 1)), (3, vI (iOr t1 t0)), (0, vA x0), (1, vA x1), (2, vI x2)]) dX0_placesOf_39 rfl (by decide) rfl (j_goto (tgt := 5) dX0_placesOf_42 (by decide) (j_sub [2, 3, 4, 1, 0] rfl (hc5 _ _ _ _ _ _ h)))))
def VX0_placesOf_5 (d : Nat) (Q : Out → MS → Prop) : Nat → Nat → Nat → Int → Int → Int → MS → Prop
  | 0, _, _, _, _, _, _ => False
  | n + 1, x0, x1, x2, x3, x4, S => S.K x0 = 0 ∧ ((R32 x4 ∧ R32 (S.I x0 0)) ∧ (((S.I x0 0) ≤ x4) → Q (.inl (some (vI x3))) S) ∧ (¬ ((S.I x0 0) ≤ x4) → S.K x0 = 0 ∧ Mw hX0_standing yX0_standing d [vA x0, vI x2, vI x4] S (oA (fun r1 S1 => S1.K x1 = 5 ∧ Mw hX5_meets yX5_meets d [vA x1, vA r1] S1 (oI (fun r2 S2 => R32 r2 ∧ ((r2 = 0) → VX0_placesOf_37 d (VX0_placesOf_5 d Q n) Q x0 x1 x2 x4 0 x3 S2) ∧ (¬ (r2 = 0) → VX0_placesOf_37 d (VX0_placesOf_5 d Q n) Q x0 x1 x2 x4 (iShl 1 x4) x3 S2)))))))
theorem JX0_placesOf_5 {d : Nat} {S0 : MS} {Q : Out → MS → Prop} : ∀ (n : Nat) (x0 : Nat) (x1 : Nat) (x2 : Int) (x3 : Int) (x4 : Int) (S : MS), VX0_placesOf_5 d Q n x0 x1 x2 x3 x4 S → Jw FinM RX0 cX0_placesOf 5 (some .int) [] yX0_placesOf (d + 1) S0 S 5 [(0, vA x0), (1, vA x1), (2, vI x2), (3, vI x3), (4, vI x4)] [] Q := by
  intro n
  induction n with
  | zero => intro x0 x1 x2 x3 x4 S h; exact h.elim
  | succ n ih =>
    intro x0 x1 x2 x3 x4 S h
    exact j_iload 4 dX0_placesOf_5 rfl (j_aload_n 0 dX0_placesOf_7 rfl (j_getI 0 0 f_RX0_17 dX0_placesOf_8 h (fun h => j_icmp_ge (tgt := 45) dX0_placesOf_11 (by decide) h (fun h => j_iload_n 3 dX0_placesOf_45 rfl (j_iret rfl dX0_placesOf_46 h)) (fun h => j_iload_n 3 dX0_placesOf_14 rfl (j_aload_n 1 dX0_placesOf_15 rfl (j_aload_n 0 dX0_placesOf_16 rfl (j_iload_n 2 dX0_placesOf_17 rfl (j_iload 4 dX0_placesOf_18 rfl (j_callV (rest := [vA x1, vI x3]) 0 [vI x2, vI x4] k_RX0_112 ⟨w_3_29, w_3_30⟩ ⟨_, _, rfl⟩ (by decide) rfl rfl (Nat.le_of_ble_eq_true rfl) dX0_placesOf_20 h (kA (fun r1 S1 h => j_callV (rest := [vI x3]) 5 [vA r1] k_RX0_116 ⟨w_3_54, w_3_55⟩ ⟨_, _, rfl⟩ (by decide) rfl rfl (Nat.le_of_ble_eq_true rfl) dX0_placesOf_23 h (kI (fun r2 S2 h => j_if_eq (tgt := 36) dX0_placesOf_26 (by decide) h (fun h => j_iconst dX0_placesOf_36 (j_sub [0, 1, 2, 4] rfl (JX0_placesOf_37 ih _ _ _ _ _ _ _ h))) (fun h => j_iconst dX0_placesOf_29 (j_iload 4 dX0_placesOf_30 rfl (j_ishl dX0_placesOf_32 (j_goto (tgt := 37) dX0_placesOf_33 (by decide) (j_sub [0, 1, 2, 4] rfl (JX0_placesOf_37 ih _ _ _ _ _ _ _ h)))))))) (fun _ _ h => h.elim))) (fun _ _ h => h.elim))))))))))
def VX0_placesOf_0 (d : Nat) (Q : Out → MS → Prop) (x0 : Nat) (x1 : Nat) (x2 : Int) (S : MS) : Prop :=
  ∃ m, VX0_placesOf_5 d Q m x0 x1 x2 0 0 S
theorem JX0_placesOf_0 {d : Nat} {S0 : MS} {Q : Out → MS → Prop} (x0 : Nat) (x1 : Nat) (x2 : Int) (S : MS) (h : VX0_placesOf_0 d Q x0 x1 x2 S) : Jw FinM RX0 cX0_placesOf 5 (some .int) [] yX0_placesOf (d + 1) S0 S 0 [(0, vA x0), (1, vA x1), (2, vI x2)] [] Q :=
  j_iconst dX0_placesOf_0 (j_istore_n (lv2 := [(3, vI 0), (0, vA x0), (1, vA x1), (2, vI x2)]) dX0_placesOf_1 (by decide) rfl (j_iconst dX0_placesOf_2 (j_istore (lv2 := [(4, vI 0), (3, vI 0), (0, vA x0), (1, vA x1), (2, vI x2)]) dX0_placesOf_3 (by decide) rfl (Exists.elim h (fun m h => j_sub [2, 3, 4, 1, 0] rfl (JX0_placesOf_5 m _ _ _ _ _ _ h))))))
theorem MX0_placesOf {d : Nat} {x0 : Nat} {x1 : Nat} {x2 : Int} {S : MS} {Q : Out → MS → Prop} (h : VX0_placesOf_0 d Q x0 x1 x2 S) : Mw hX0_placesOf yX0_placesOf (d + 1) [vA x0, vA x1, vI x2] S Q := Mw.ofJ (by decide) (Nat.le_of_ble_eq_true rfl) (JX0_placesOf_0 _ _ _ S h)
theorem dX0_isPlaced_0 : decode cX0_isPlaced 0 = .ok (.aload_n 0, 1) := by decide +kernel
theorem dX0_isPlaced_1 : decode cX0_isPlaced 1 = .ok (.aload_n 1, 1) := by decide +kernel
theorem dX0_isPlaced_2 : decode cX0_isPlaced 2 = .ok (.iload_n 2, 1) := by decide +kernel
theorem dX0_isPlaced_3 : decode cX0_isPlaced 3 = .ok (.invokevirtual 120, 3) := by decide +kernel
theorem dX0_isPlaced_6 : decode cX0_isPlaced 6 = .ok (.istore_n 3, 1) := by decide +kernel
theorem dX0_isPlaced_7 : decode cX0_isPlaced 7 = .ok (.iload_n 3, 1) := by decide +kernel
theorem dX0_isPlaced_8 : decode cX0_isPlaced 8 = .ok (.invokestatic 84, 3) := by decide +kernel
theorem dX0_isPlaced_11 : decode cX0_isPlaced 11 = .ok (.iconst 1, 1) := by decide +kernel
theorem dX0_isPlaced_12 : decode cX0_isPlaced 12 = .ok (.if_icmp .ne 7, 3) := by decide +kernel
theorem dX0_isPlaced_15 : decode cX0_isPlaced 15 = .ok (.iconst 1, 1) := by decide +kernel
theorem dX0_isPlaced_16 : decode cX0_isPlaced 16 = .ok (.goto 4, 3) := by decide +kernel
theorem dX0_isPlaced_19 : decode cX0_isPlaced 19 = .ok (.iconst 0, 1) := by decide +kernel
theorem dX0_isPlaced_20 : decode cX0_isPlaced 20 = .ok (.istore 4, 2) := by decide +kernel
theorem dX0_isPlaced_22 : decode cX0_isPlaced 22 = .ok (.iconst 0, 1) := by decide +kernel
theorem dX0_isPlaced_23 : decode cX0_isPlaced 23 = .ok (.istore 5, 2) := by decide +kernel
theorem dX0_isPlaced_25 : decode cX0_isPlaced 25 = .ok (.iload 5, 2) := by decide +kernel
theorem dX0_isPlaced_27 : decode cX0_isPlaced 27 = .ok (.aload_n 0, 1) := by decide +kernel
theorem dX0_isPlaced_28 : decode cX0_isPlaced 28 = .ok (.getfield 17, 3) := by decide +kernel
theorem dX0_isPlaced_31 : decode cX0_isPlaced 31 = .ok (.iconst 2, 1) := by decide +kernel
theorem dX0_isPlaced_32 : decode cX0_isPlaced 32 = .ok (.idiv, 1) := by decide +kernel
theorem dX0_isPlaced_33 : decode cX0_isPlaced 33 = .ok (.if_icmp .ge 41, 3) := by decide +kernel
theorem dX0_isPlaced_36 : decode cX0_isPlaced 36 = .ok (.iload 4, 2) := by decide +kernel
theorem dX0_isPlaced_38 : decode cX0_isPlaced 38 = .ok (.ifCond .ne 23, 3) := by decide +kernel
theorem dX0_isPlaced_41 : decode cX0_isPlaced 41 = .ok (.iload_n 3, 1) := by decide +kernel
theorem dX0_isPlaced_42 : decode cX0_isPlaced 42 = .ok (.iconst 1, 1) := by decide +kernel
theorem dX0_isPlaced_43 : decode cX0_isPlaced 43 = .ok (.iload 5, 2) := by decide +kernel
theorem dX0_isPlaced_45 : decode cX0_isPlaced 45 = .ok (.ishl, 1) := by decide +kernel
theorem dX0_isPlaced_46 : decode cX0_isPlaced 46 = .ok (.iconst 1, 1) := by decide +kernel
theorem dX0_isPlaced_47 : decode cX0_isPlaced 47 = .ok (.aload_n 0, 1) := by decide +kernel
theorem dX0_isPlaced_48 : decode cX0_isPlaced 48 = .ok (.getfield 17, 3) := by decide +kernel
theorem dX0_isPlaced_51 : decode cX0_isPlaced 51 = .ok (.iconst 1, 1) := by decide +kernel
theorem dX0_isPlaced_52 : decode cX0_isPlaced 52 = .ok (.isub, 1) := by decide +kernel
theorem dX0_isPlaced_53 : decode cX0_isPlaced 53 = .ok (.iload 5, 2) := by decide +kernel
theorem dX0_isPlaced_55 : decode cX0_isPlaced 55 = .ok (.isub, 1) := by decide +kernel
theorem dX0_isPlaced_56 : decode cX0_isPlaced 56 = .ok (.ishl, 1) := by decide +kernel
theorem dX0_isPlaced_57 : decode cX0_isPlaced 57 = .ok (.ior, 1) := by decide +kernel
theorem dX0_isPlaced_58 : decode cX0_isPlaced 58 = .ok (.if_icmp .ne 7, 3) := by decide +kernel
theorem dX0_isPlaced_61 : decode cX0_isPlaced 61 = .ok (.iconst 1, 1) := by decide +kernel
theorem dX0_isPlaced_62 : decode cX0_isPlaced 62 = .ok (.goto 4, 3) := by decide +kernel
theorem dX0_isPlaced_65 : decode cX0_isPlaced 65 = .ok (.iconst 0, 1) := by decide +kernel
theorem dX0_isPlaced_66 : decode cX0_isPlaced 66 = .ok (.istore 4, 2) := by decide +kernel
theorem dX0_isPlaced_68 : decode cX0_isPlaced 68 = .ok (.iinc 5 1, 3) := by decide +kernel
theorem dX0_isPlaced_71 : decode cX0_isPlaced 71 = .ok (.goto (-46), 3) := by decide +kernel
theorem dX0_isPlaced_74 : decode cX0_isPlaced 74 = .ok (.iload 4, 2) := by decide +kernel
theorem dX0_isPlaced_76 : decode cX0_isPlaced 76 = .ok (.ireturn, 1) := by decide +kernel
def VX0_isPlaced_66 (d : Nat) (c25 : Nat → Int → Int → Int → MS → Prop) (Q : Out → MS → Prop) (x0 : Nat) (x3 : Int) (x5 : Int) (t0 : Int) (S : MS) : Prop :=
  c25 x0 x3 t0 (x5 + 1) S
theorem JX0_isPlaced_66 {d : Nat} {c25 : Nat → Int → Int → Int → MS → Prop} {S0 : MS} {Q : Out → MS → Prop} (hc25 : ∀ (x0 : Nat) (x3 : Int) (x4 : Int) (x5 : Int) (S : MS), c25 x0 x3 x4 x5 S → Jw FinM RX0 cX0_isPlaced 6 (some .boolean) [] yX0_isPlaced (d + 1) S0 S 25 [(0, vA x0), (3, vI x3), (4, vI x4), (5, vI x5)] [] Q) (x0 : Nat) (x3 : Int) (x5 : Int) (t0 : Int) (S : MS) (h : VX0_isPlaced_66 d c25 Q x0 x3 x5 t0 S) : Jw FinM RX0 cX0_isPlaced 6 (some .boolean) [] yX0_isPlaced (d + 1) S0 S 66 [(0, vA x0), (3, vI x3), (5, vI x5)] [vI t0] Q :=
  j_istore (lv2 := [(4, vI t0), (0, vA x0), (3, vI x3), (5, vI x5)]) dX0_isPlaced_66 (by decide) rfl (j_iinc 3 (lv2 := [(5, vI (x5 + 1)), (4, vI t0), (0, vA x0), (3, vI x3)]) dX0_isPlaced_68 rfl (by decide) rfl (j_goto (tgt := 25) dX0_isPlaced_71 (by decide) (j_sub [2, 3, 1, 0] rfl (hc25 _ _ _ _ _ h))))
def VX0_isPlaced_61 (d : Nat) (c25 : Nat → Int → Int → Int → MS → Prop) (Q : Out → MS → Prop) (x0 : Nat) (x3 : Int) (x5 : Int) (S : MS) : Prop :=
  VX0_isPlaced_66 d c25 Q x0 x3 x5 1 S
theorem JX0_isPlaced_61 {d : Nat} {c25 : Nat → Int → Int → Int → MS → Prop} {S0 : MS} {Q : Out → MS → Prop} (hc25 : ∀ (x0 : Nat) (x3 : Int) (x4 : Int) (x5 : Int) (S : MS), c25 x0 x3 x4 x5 S → Jw FinM RX0 cX0_isPlaced 6 (some .boolean) [] yX0_isPlaced (d + 1) S0 S 25 [(0, vA x0), (3, vI x3), (4, vI x4), (5, vI x5)] [] Q) (x0 : Nat) (x3 : Int) (x5 : Int) (S : MS) (h : VX0_isPlaced_61 d c25 Q x0 x3 x5 S) : Jw FinM RX0 cX0_isPlaced 6 (some .boolean) [] yX0_isPlaced (d + 1) S0 S 61 [(0, vA x0), (3, vI x3), (5, vI x5)] [] Q :=
  j_iconst dX0_isPlaced_61 (j_goto (tgt := 66) dX0_isPlaced_62 (by decide) (JX0_isPlaced_66 hc25 _ _ _ _ _ h))
def VX0_isPlaced_25 (d : Nat) (Q : Out → MS → Prop) : Nat → Nat → Int → Int → Int → MS → Prop
  | 0, _, _, _, _, _ => False
  | n + 1, x0, x3, x4, x5, S => S.K x0 = 0 ∧ ((R32 (2 : Int) ∧ (2 : Int) ≠ 0) ∧ ((R32 x5 ∧ R32 (iDiv (S.I x0 0) 2)) ∧ (((iDiv (S.I x0 0) 2) ≤ x5) → B01 x4 ∧ Q (.inl (some (vI x4))) S) ∧ (¬ ((iDiv (S.I x0 0) 2) ≤ x5) → R32 x4 ∧ (¬ (x4 = 0) → VX0_isPlaced_61 d (VX0_isPlaced_25 d Q n) Q x0 x3 x5 S) ∧ ((x4 = 0) → S.K x0 = 0 ∧ ((R32 x3 ∧ R32 (iOr (iShl 1 x5) (iShl 1 (((S.I x0 0) - 1) - x5)))) ∧ (¬ (x3 = (iOr (iShl 1 x5) (iShl 1 (((S.I x0 0) - 1) - x5)))) → VX0_isPlaced_66 d (VX0_isPlaced_25 d Q n) Q x0 x3 x5 0 S) ∧ ((x3 = (iOr (iShl 1 x5) (iShl 1 (((S.I x0 0) - 1) - x5)))) → VX0_isPlaced_61 d (VX0_isPlaced_25 d Q n) Q x0 x3 x5 S))))))
theorem JX0_isPlaced_25 {d : Nat} {S0 : MS} {Q : Out → MS → Prop} : ∀ (n : Nat) (x0 : Nat) (x3 : Int) (x4 : Int) (x5 : Int) (S : MS), VX0_isPlaced_25 d Q n x0 x3 x4 x5 S → Jw FinM RX0 cX0_isPlaced 6 (some .boolean) [] yX0_isPlaced (d + 1) S0 S 25 [(0, vA x0), (3, vI x3), (4, vI x4), (5, vI x5)] [] Q := by
  intro n
  induction n with
  | zero => intro x0 x3 x4 x5 S h; exact h.elim
  | succ n ih =>
    intro x0 x3 x4 x5 S h
    exact j_iload 3 dX0_isPlaced_25 rfl (j_aload_n 0 dX0_isPlaced_27 rfl (j_getI 0 0 f_RX0_17 dX0_isPlaced_28 h (fun h => j_iconst dX0_isPlaced_31 (j_idiv dX0_isPlaced_32 h (fun h => j_icmp_ge (tgt := 74) dX0_isPlaced_33 (by decide) h (fun h => j_iload 2 dX0_isPlaced_74 rfl (j_zret rfl dX0_isPlaced_76 h)) (fun h => j_iload 2 dX0_isPlaced_36 rfl (j_if_ne (tgt := 61) dX0_isPlaced_38 (by decide) h (fun h => j_sub [0, 1, 3] rfl (JX0_isPlaced_61 ih _ _ _ _ h)) (fun h => j_iload_n 1 dX0_isPlaced_41 rfl (j_iconst dX0_isPlaced_42 (j_iload 3 dX0_isPlaced_43 rfl (j_ishl dX0_isPlaced_45 (j_iconst dX0_isPlaced_46 (j_aload_n 0 dX0_isPlaced_47 rfl (j_getI 0 0 f_RX0_17 dX0_isPlaced_48 h (fun h => j_iconst dX0_isPlaced_51 (j_isub dX0_isPlaced_52 (j_iload 3 dX0_isPlaced_53 rfl (j_isub dX0_isPlaced_55 (j_ishl dX0_isPlaced_56 (j_ior dX0_isPlaced_57 (j_icmp_ne (tgt := 65) dX0_isPlaced_58 (by decide) h (fun h => j_iconst dX0_isPlaced_65 (j_sub [0, 1, 3] rfl (JX0_isPlaced_66 ih _ _ _ _ _ h))) (fun h => j_sub [0, 1, 3] rfl (JX0_isPlaced_61 ih _ _ _ _ h)))))))))))))))))))))))
def VX0_isPlaced_20 (d : Nat) (Q : Out → MS → Prop) (x0 : Nat) (x3 : Int) (t0 : Int) (S : MS) : Prop :=
  ∃ m, VX0_isPlaced_25 d Q m x0 x3 t0 0 S
theorem JX0_isPlaced_20 {d : Nat} {S0 : MS} {Q : Out → MS → Prop} (x0 : Nat) (x3 : Int) (t0 : Int) (S : MS) (h : VX0_isPlaced_20 d Q x0 x3 t0 S) : Jw FinM RX0 cX0_isPlaced 6 (some .boolean) [] yX0_isPlaced (d + 1) S0 S 20 [(0, vA x0), (3, vI x3)] [vI t0] Q :=
  j_istore (lv2 := [(4, vI t0), (0, vA x0), (3, vI x3)]) dX0_isPlaced_20 (by decide) rfl (j_iconst dX0_isPlaced_22 (j_istore (lv2 := [(5, vI 0), (4, vI t0), (0, vA x0), (3, vI x3)]) dX0_isPlaced_23 (by decide) rfl (Exists.elim h (fun m h => j_sub [2, 3, 1, 0] rfl (JX0_isPlaced_25 m _ _ _ _ _ h)))))
def VX0_isPlaced_0 (d : Nat) (Q : Out → MS → Prop) (x0 : Nat) (x1 : Nat) (x2 : Int) (S : MS) : Prop :=
  S.K x0 = 0 ∧ Mw hX0_placesOf yX0_placesOf d [vA x0, vA x1, vI x2] S (oI (fun r1 S1 => Mw hJ6_bitCount_0f7a4 yJ6_bitCount_0f7a4 d [vI r1] S1 (oI (fun r2 S2 => (R32 r2 ∧ R32 (1 : Int)) ∧ (¬ (r2 = (1 : Int)) → VX0_isPlaced_20 d Q x0 r1 0 S2) ∧ ((r2 = (1 : Int)) → VX0_isPlaced_20 d Q x0 r1 1 S2)))))
theorem JX0_isPlaced_0 {d : Nat} {S0 : MS} {Q : Out → MS → Prop} (x0 : Nat) (x1 : Nat) (x2 : Int) (S : MS) (h : VX0_isPlaced_0 d Q x0 x1 x2 S) : Jw FinM RX0 cX0_isPlaced 6 (some .boolean) [] yX0_isPlaced (d + 1) S0 S 0 [(0, vA x0), (1, vA x1), (2, vI x2)] [] Q :=
  j_aload_n 0 dX0_isPlaced_0 rfl (j_aload_n 1 dX0_isPlaced_1 rfl (j_iload_n 2 dX0_isPlaced_2 rfl (j_callV (rest := []) 0 [vA x1, vI x2] k_RX0_120 ⟨w_3_176, w_3_177⟩ ⟨_, _, rfl⟩ (by decide) rfl rfl (Nat.le_of_ble_eq_true rfl) dX0_isPlaced_3 h (kI (fun r1 S1 h => j_istore_n (lv2 := [(3, vI r1), (0, vA x0), (1, vA x1), (2, vI x2)]) dX0_isPlaced_6 (by decide) rfl (j_iload_n 0 dX0_isPlaced_7 rfl (j_callS (rest := []) [vI r1] k_RX0_84 w_2_86 rfl rfl (Nat.le_of_ble_eq_true rfl) dX0_isPlaced_8 h (kI (fun r2 S2 h => j_iconst dX0_isPlaced_11 (j_icmp_ne (tgt := 19) dX0_isPlaced_12 (by decide) h (fun h => j_iconst dX0_isPlaced_19 (j_sub [1, 0] rfl (JX0_isPlaced_20 _ _ _ _ h))) (fun h => j_iconst dX0_isPlaced_15 (j_goto (tgt := 20) dX0_isPlaced_16 (by decide) (j_sub [1, 0] rfl (JX0_isPlaced_20 _ _ _ _ h))))))) (fun _ _ h => h.elim))))) (fun _ _ h => h.elim))))
theorem MX0_isPlaced {d : Nat} {x0 : Nat} {x1 : Nat} {x2 : Int} {S : MS} {Q : Out → MS → Prop} (h : VX0_isPlaced_0 d Q x0 x1 x2 S) : Mw hX0_isPlaced yX0_isPlaced (d + 1) [vA x0, vA x1, vI x2] S Q := Mw.ofJ (by decide) (Nat.le_of_ble_eq_true rfl) (JX0_isPlaced_0 _ _ _ S h)
theorem dX0_mayEnd_0 : decode cX0_mayEnd 0 = .ok (.aload_n 1, 1) := by decide +kernel
theorem dX0_mayEnd_1 : decode cX0_mayEnd 1 = .ok (.aload_n 0, 1) := by decide +kernel
theorem dX0_mayEnd_2 : decode cX0_mayEnd 2 = .ok (.iload_n 2, 1) := by decide +kernel
theorem dX0_mayEnd_3 : decode cX0_mayEnd 3 = .ok (.iconst 0, 1) := by decide +kernel
theorem dX0_mayEnd_4 : decode cX0_mayEnd 4 = .ok (.invokevirtual 112, 3) := by decide +kernel
theorem dX0_mayEnd_7 : decode cX0_mayEnd 7 = .ok (.aload_n 0, 1) := by decide +kernel
theorem dX0_mayEnd_8 : decode cX0_mayEnd 8 = .ok (.iload_n 3, 1) := by decide +kernel
theorem dX0_mayEnd_9 : decode cX0_mayEnd 9 = .ok (.aload_n 0, 1) := by decide +kernel
theorem dX0_mayEnd_10 : decode cX0_mayEnd 10 = .ok (.getfield 17, 3) := by decide +kernel
theorem dX0_mayEnd_13 : decode cX0_mayEnd 13 = .ok (.iconst 1, 1) := by decide +kernel
theorem dX0_mayEnd_14 : decode cX0_mayEnd 14 = .ok (.isub, 1) := by decide +kernel
theorem dX0_mayEnd_15 : decode cX0_mayEnd 15 = .ok (.invokevirtual 112, 3) := by decide +kernel
theorem dX0_mayEnd_18 : decode cX0_mayEnd 18 = .ok (.invokevirtual 124, 3) := by decide +kernel
theorem dX0_mayEnd_21 : decode cX0_mayEnd 21 = .ok (.ifCond .ne 27, 3) := by decide +kernel
theorem dX0_mayEnd_24 : decode cX0_mayEnd 24 = .ok (.aload_n 1, 1) := by decide +kernel
theorem dX0_mayEnd_25 : decode cX0_mayEnd 25 = .ok (.aload_n 0, 1) := by decide +kernel
theorem dX0_mayEnd_26 : decode cX0_mayEnd 26 = .ok (.iload_n 3, 1) := by decide +kernel
theorem dX0_mayEnd_27 : decode cX0_mayEnd 27 = .ok (.iconst 0, 1) := by decide +kernel
theorem dX0_mayEnd_28 : decode cX0_mayEnd 28 = .ok (.invokevirtual 112, 3) := by decide +kernel
theorem dX0_mayEnd_31 : decode cX0_mayEnd 31 = .ok (.aload_n 0, 1) := by decide +kernel
theorem dX0_mayEnd_32 : decode cX0_mayEnd 32 = .ok (.iload_n 2, 1) := by decide +kernel
theorem dX0_mayEnd_33 : decode cX0_mayEnd 33 = .ok (.aload_n 0, 1) := by decide +kernel
theorem dX0_mayEnd_34 : decode cX0_mayEnd 34 = .ok (.getfield 17, 3) := by decide +kernel
theorem dX0_mayEnd_37 : decode cX0_mayEnd 37 = .ok (.iconst 1, 1) := by decide +kernel
theorem dX0_mayEnd_38 : decode cX0_mayEnd 38 = .ok (.isub, 1) := by decide +kernel
theorem dX0_mayEnd_39 : decode cX0_mayEnd 39 = .ok (.invokevirtual 112, 3) := by decide +kernel
theorem dX0_mayEnd_42 : decode cX0_mayEnd 42 = .ok (.invokevirtual 124, 3) := by decide +kernel
theorem dX0_mayEnd_45 : decode cX0_mayEnd 45 = .ok (.ifCond .eq 7, 3) := by decide +kernel
theorem dX0_mayEnd_48 : decode cX0_mayEnd 48 = .ok (.iconst 1, 1) := by decide +kernel
theorem dX0_mayEnd_49 : decode cX0_mayEnd 49 = .ok (.goto 4, 3) := by decide +kernel
theorem dX0_mayEnd_52 : decode cX0_mayEnd 52 = .ok (.iconst 0, 1) := by decide +kernel
theorem dX0_mayEnd_53 : decode cX0_mayEnd 53 = .ok (.ireturn, 1) := by decide +kernel
def VX0_mayEnd_48 (d : Nat) (Q : Out → MS → Prop) (S : MS) : Prop :=
  B01 1 ∧ Q (.inl (some (vI 1))) S
theorem JX0_mayEnd_48 {d : Nat} {S0 : MS} {Q : Out → MS → Prop} (S : MS) (h : VX0_mayEnd_48 d Q S) : Jw FinM RX0 cX0_mayEnd 4 (some .boolean) [] yX0_mayEnd (d + 1) S0 S 48 [] [] Q :=
  j_iconst dX0_mayEnd_48 (j_goto (tgt := 53) dX0_mayEnd_49 (by decide) (j_zret rfl dX0_mayEnd_53 h))
def VX0_mayEnd_0 (d : Nat) (Q : Out → MS → Prop) (x0 : Nat) (x1 : Nat) (x2 : Int) (x3 : Int) (S : MS) : Prop :=
  S.K x0 = 0 ∧ Mw hX0_standing yX0_standing d [vA x0, vI x2, vI 0] S (oA (fun r1 S1 => S1.K x0 = 0 ∧ (S1.K x0 = 0 ∧ Mw hX0_standing yX0_standing d [vA x0, vI x3, vI ((S1.I x0 0) - 1)] S1 (oA (fun r2 S2 => S2.K x1 = 5 ∧ Mw hX5_meetsBoth yX5_meetsBoth d [vA x1, vA r1, vA r2] S2 (oI (fun r3 S3 => R32 r3 ∧ (¬ (r3 = 0) → VX0_mayEnd_48 d Q S3) ∧ ((r3 = 0) → S3.K x0 = 0 ∧ Mw hX0_standing yX0_standing d [vA x0, vI x3, vI 0] S3 (oA (fun r4 S4 => S4.K x0 = 0 ∧ (S4.K x0 = 0 ∧ Mw hX0_standing yX0_standing d [vA x0, vI x2, vI ((S4.I x0 0) - 1)] S4 (oA (fun r5 S5 => S5.K x1 = 5 ∧ Mw hX5_meetsBoth yX5_meetsBoth d [vA x1, vA r4, vA r5] S5 (oI (fun r6 S6 => R32 r6 ∧ ((r6 = 0) → B01 0 ∧ Q (.inl (some (vI 0))) S6) ∧ (¬ (r6 = 0) → VX0_mayEnd_48 d Q S6))))))))))))))))
theorem JX0_mayEnd_0 {d : Nat} {S0 : MS} {Q : Out → MS → Prop} (x0 : Nat) (x1 : Nat) (x2 : Int) (x3 : Int) (S : MS) (h : VX0_mayEnd_0 d Q x0 x1 x2 x3 S) : Jw FinM RX0 cX0_mayEnd 4 (some .boolean) [] yX0_mayEnd (d + 1) S0 S 0 [(0, vA x0), (1, vA x1), (2, vI x2), (3, vI x3)] [] Q :=
  j_aload_n 1 dX0_mayEnd_0 rfl (j_aload_n 0 dX0_mayEnd_1 rfl (j_iload_n 2 dX0_mayEnd_2 rfl (j_iconst dX0_mayEnd_3 (j_callV (rest := [vA x1]) 0 [vI x2, vI 0] k_RX0_112 ⟨w_3_29, w_3_30⟩ ⟨_, _, rfl⟩ (by decide) rfl rfl (Nat.le_of_ble_eq_true rfl) dX0_mayEnd_4 h (kA (fun r1 S1 h => j_aload_n 0 dX0_mayEnd_7 rfl (j_iload_n 3 dX0_mayEnd_8 rfl (j_aload_n 0 dX0_mayEnd_9 rfl (j_getI 0 0 f_RX0_17 dX0_mayEnd_10 h (fun h => j_iconst dX0_mayEnd_13 (j_isub dX0_mayEnd_14 (j_callV (rest := [vA r1, vA x1]) 0 [vI x3, vI ((S1.I x0 0) - 1)] k_RX0_112 ⟨w_3_29, w_3_30⟩ ⟨_, _, rfl⟩ (by decide) rfl rfl (Nat.le_of_ble_eq_true rfl) dX0_mayEnd_15 h (kA (fun r2 S2 h => j_callV (rest := []) 5 [vA r1, vA r2] k_RX0_124 ⟨w_3_33, w_3_34⟩ ⟨_, _, rfl⟩ (by decide) rfl rfl (Nat.le_of_ble_eq_true rfl) dX0_mayEnd_18 h (kI (fun r3 S3 h => j_if_ne (tgt := 48) dX0_mayEnd_21 (by decide) h (fun h => j_sub [] rfl (JX0_mayEnd_48 _ h)) (fun h => j_aload_n 1 dX0_mayEnd_24 rfl (j_aload_n 0 dX0_mayEnd_25 rfl (j_iload_n 3 dX0_mayEnd_26 rfl (j_iconst dX0_mayEnd_27 (j_callV (rest := [vA x1]) 0 [vI x3, vI 0] k_RX0_112 ⟨w_3_29, w_3_30⟩ ⟨_, _, rfl⟩ (by decide) rfl rfl (Nat.le_of_ble_eq_true rfl) dX0_mayEnd_28 h (kA (fun r4 S4 h => j_aload_n 0 dX0_mayEnd_31 rfl (j_iload_n 2 dX0_mayEnd_32 rfl (j_aload_n 0 dX0_mayEnd_33 rfl (j_getI 0 0 f_RX0_17 dX0_mayEnd_34 h (fun h => j_iconst dX0_mayEnd_37 (j_isub dX0_mayEnd_38 (j_callV (rest := [vA r4, vA x1]) 0 [vI x2, vI ((S4.I x0 0) - 1)] k_RX0_112 ⟨w_3_29, w_3_30⟩ ⟨_, _, rfl⟩ (by decide) rfl rfl (Nat.le_of_ble_eq_true rfl) dX0_mayEnd_39 h (kA (fun r5 S5 h => j_callV (rest := []) 5 [vA r4, vA r5] k_RX0_124 ⟨w_3_33, w_3_34⟩ ⟨_, _, rfl⟩ (by decide) rfl rfl (Nat.le_of_ble_eq_true rfl) dX0_mayEnd_42 h (kI (fun r6 S6 h => j_if_eq (tgt := 52) dX0_mayEnd_45 (by decide) h (fun h => j_iconst dX0_mayEnd_52 (j_zret rfl dX0_mayEnd_53 h)) (fun h => j_sub [] rfl (JX0_mayEnd_48 _ h)))) (fun _ _ h => h.elim))) (fun _ _ h => h.elim))))))))) (fun _ _ h => h.elim)))))))) (fun _ _ h => h.elim))) (fun _ _ h => h.elim))))))))) (fun _ _ h => h.elim)))))
theorem MX0_mayEnd {d : Nat} {x0 : Nat} {x1 : Nat} {x2 : Int} {x3 : Int} {S : MS} {Q : Out → MS → Prop} (h : VX0_mayEnd_0 d Q x0 x1 x2 x3 S) : Mw hX0_mayEnd yX0_mayEnd (d + 1) [vA x0, vA x1, vI x2, vI x3] S Q := Mw.ofJ (by decide) (Nat.le_of_ble_eq_true rfl) (JX0_mayEnd_0 _ _ _ _ S h)
theorem dX0_fewestSwaps_0 : decode cX0_fewestSwaps 0 = .ok (.iconst 0, 1) := by decide +kernel
theorem dX0_fewestSwaps_1 : decode cX0_fewestSwaps 1 = .ok (.istore_n 3, 1) := by decide +kernel
theorem dX0_fewestSwaps_2 : decode cX0_fewestSwaps 2 = .ok (.iconst 0, 1) := by decide +kernel
theorem dX0_fewestSwaps_3 : decode cX0_fewestSwaps 3 = .ok (.istore 4, 2) := by decide +kernel
theorem dX0_fewestSwaps_5 : decode cX0_fewestSwaps 5 = .ok (.iload 4, 2) := by decide +kernel
theorem dX0_fewestSwaps_7 : decode cX0_fewestSwaps 7 = .ok (.aload_n 0, 1) := by decide +kernel
theorem dX0_fewestSwaps_8 : decode cX0_fewestSwaps 8 = .ok (.getfield 17, 3) := by decide +kernel
theorem dX0_fewestSwaps_11 : decode cX0_fewestSwaps 11 = .ok (.if_icmp .ge 23, 3) := by decide +kernel
theorem dX0_fewestSwaps_14 : decode cX0_fewestSwaps 14 = .ok (.iload_n 3, 1) := by decide +kernel
theorem dX0_fewestSwaps_15 : decode cX0_fewestSwaps 15 = .ok (.iload 4, 2) := by decide +kernel
theorem dX0_fewestSwaps_17 : decode cX0_fewestSwaps 17 = .ok (.iconst 3, 1) := by decide +kernel
theorem dX0_fewestSwaps_18 : decode cX0_fewestSwaps 18 = .ok (.iload_n 2, 1) := by decide +kernel
theorem dX0_fewestSwaps_19 : decode cX0_fewestSwaps 19 = .ok (.iload 4, 2) := by decide +kernel
theorem dX0_fewestSwaps_21 : decode cX0_fewestSwaps 21 = .ok (.invokestatic 81, 3) := by decide +kernel
theorem dX0_fewestSwaps_24 : decode cX0_fewestSwaps 24 = .ok (.imul, 1) := by decide +kernel
theorem dX0_fewestSwaps_25 : decode cX0_fewestSwaps 25 = .ok (.ishl, 1) := by decide +kernel
theorem dX0_fewestSwaps_26 : decode cX0_fewestSwaps 26 = .ok (.ior, 1) := by decide +kernel
theorem dX0_fewestSwaps_27 : decode cX0_fewestSwaps 27 = .ok (.istore_n 3, 1) := by decide +kernel
theorem dX0_fewestSwaps_28 : decode cX0_fewestSwaps 28 = .ok (.iinc 4 1, 3) := by decide +kernel
theorem dX0_fewestSwaps_31 : decode cX0_fewestSwaps 31 = .ok (.goto (-26), 3) := by decide +kernel
theorem dX0_fewestSwaps_34 : decode cX0_fewestSwaps 34 = .ok (.aload_n 1, 1) := by decide +kernel
theorem dX0_fewestSwaps_35 : decode cX0_fewestSwaps 35 = .ok (.aload_n 0, 1) := by decide +kernel
theorem dX0_fewestSwaps_36 : decode cX0_fewestSwaps 36 = .ok (.getfield 35, 3) := by decide +kernel
theorem dX0_fewestSwaps_39 : decode cX0_fewestSwaps 39 = .ok (.invokevirtual 102, 3) := by decide +kernel
theorem dX0_fewestSwaps_42 : decode cX0_fewestSwaps 42 = .ok (.istore 4, 2) := by decide +kernel
theorem dX0_fewestSwaps_44 : decode cX0_fewestSwaps 44 = .ok (.iconst (-1), 1) := by decide +kernel
theorem dX0_fewestSwaps_45 : decode cX0_fewestSwaps 45 = .ok (.istore 5, 2) := by decide +kernel
theorem dX0_fewestSwaps_47 : decode cX0_fewestSwaps 47 = .ok (.iconst 0, 1) := by decide +kernel
theorem dX0_fewestSwaps_48 : decode cX0_fewestSwaps 48 = .ok (.istore 6, 2) := by decide +kernel
theorem dX0_fewestSwaps_50 : decode cX0_fewestSwaps 50 = .ok (.iload 6, 2) := by decide +kernel
theorem dX0_fewestSwaps_52 : decode cX0_fewestSwaps 52 = .ok (.iload 4, 2) := by decide +kernel
theorem dX0_fewestSwaps_54 : decode cX0_fewestSwaps 54 = .ok (.if_icmp .ge 47, 3) := by decide +kernel
theorem dX0_fewestSwaps_57 : decode cX0_fewestSwaps 57 = .ok (.aload_n 0, 1) := by decide +kernel
theorem dX0_fewestSwaps_58 : decode cX0_fewestSwaps 58 = .ok (.aload_n 0, 1) := by decide +kernel
theorem dX0_fewestSwaps_59 : decode cX0_fewestSwaps 59 = .ok (.aload_n 0, 1) := by decide +kernel
theorem dX0_fewestSwaps_60 : decode cX0_fewestSwaps 60 = .ok (.getfield 35, 3) := by decide +kernel
theorem dX0_fewestSwaps_63 : decode cX0_fewestSwaps 63 = .ok (.iload 6, 2) := by decide +kernel
theorem dX0_fewestSwaps_65 : decode cX0_fewestSwaps 65 = .ok (.iaload, 1) := by decide +kernel
theorem dX0_fewestSwaps_66 : decode cX0_fewestSwaps 66 = .ok (.invokevirtual 96, 3) := by decide +kernel
theorem dX0_fewestSwaps_69 : decode cX0_fewestSwaps 69 = .ok (.iload_n 3, 1) := by decide +kernel
theorem dX0_fewestSwaps_70 : decode cX0_fewestSwaps 70 = .ok (.invokevirtual 128, 3) := by decide +kernel
theorem dX0_fewestSwaps_73 : decode cX0_fewestSwaps 73 = .ok (.istore 7, 2) := by decide +kernel
theorem dX0_fewestSwaps_75 : decode cX0_fewestSwaps 75 = .ok (.iload 5, 2) := by decide +kernel
theorem dX0_fewestSwaps_77 : decode cX0_fewestSwaps 77 = .ok (.iconst (-1), 1) := by decide +kernel
theorem dX0_fewestSwaps_78 : decode cX0_fewestSwaps 78 = .ok (.if_icmp .ne 8, 3) := by decide +kernel
theorem dX0_fewestSwaps_81 : decode cX0_fewestSwaps 81 = .ok (.iload 7, 2) := by decide +kernel
theorem dX0_fewestSwaps_83 : decode cX0_fewestSwaps 83 = .ok (.goto 10, 3) := by decide +kernel
theorem dX0_fewestSwaps_86 : decode cX0_fewestSwaps 86 = .ok (.iload 5, 2) := by decide +kernel
theorem dX0_fewestSwaps_88 : decode cX0_fewestSwaps 88 = .ok (.iload 7, 2) := by decide +kernel
theorem dX0_fewestSwaps_90 : decode cX0_fewestSwaps 90 = .ok (.invokestatic 72, 3) := by decide +kernel
theorem dX0_fewestSwaps_93 : decode cX0_fewestSwaps 93 = .ok (.istore 5, 2) := by decide +kernel
theorem dX0_fewestSwaps_95 : decode cX0_fewestSwaps 95 = .ok (.iinc 6 1, 3) := by decide +kernel
theorem dX0_fewestSwaps_98 : decode cX0_fewestSwaps 98 = .ok (.goto (-48), 3) := by decide +kernel
theorem dX0_fewestSwaps_101 : decode cX0_fewestSwaps 101 = .ok (.iload 5, 2) := by decide +kernel
theorem dX0_fewestSwaps_103 : decode cX0_fewestSwaps 103 = .ok (.ireturn, 1) := by decide +kernel
def VX0_fewestSwaps_93 (d : Nat) (c50 : Nat → Int → Int → Int → Int → MS → Prop) (Q : Out → MS → Prop) (x0 : Nat) (x3 : Int) (x4 : Int) (x6 : Int) (t0 : Int) (S : MS) : Prop :=
  c50 x0 x3 x4 t0 (x6 + 1) S
theorem JX0_fewestSwaps_93 {d : Nat} {c50 : Nat → Int → Int → Int → Int → MS → Prop} {S0 : MS} {Q : Out → MS → Prop} (hc50 : ∀ (x0 : Nat) (x3 : Int) (x4 : Int) (x5 : Int) (x6 : Int) (S : MS), c50 x0 x3 x4 x5 x6 S → Jw FinM RX0 cX0_fewestSwaps 8 (some .int) [] yX0_fewestSwaps (d + 1) S0 S 50 [(0, vA x0), (3, vI x3), (4, vI x4), (5, vI x5), (6, vI x6)] [] Q) (x0 : Nat) (x3 : Int) (x4 : Int) (x6 : Int) (t0 : Int) (S : MS) (h : VX0_fewestSwaps_93 d c50 Q x0 x3 x4 x6 t0 S) : Jw FinM RX0 cX0_fewestSwaps 8 (some .int) [] yX0_fewestSwaps (d + 1) S0 S 93 [(0, vA x0), (3, vI x3), (4, vI x4), (6, vI x6)] [vI t0] Q :=
  j_istore (lv2 := [(5, vI t0), (0, vA x0), (3, vI x3), (4, vI x4), (6, vI x6)]) dX0_fewestSwaps_93 (by decide) rfl (j_iinc 4 (lv2 := [(6, vI (x6 + 1)), (5, vI t0), (0, vA x0), (3, vI x3), (4, vI x4)]) dX0_fewestSwaps_95 rfl (by decide) rfl (j_goto (tgt := 50) dX0_fewestSwaps_98 (by decide) (j_sub [2, 3, 4, 1, 0] rfl (hc50 _ _ _ _ _ _ h))))
def VX0_fewestSwaps_50 (d : Nat) (Q : Out → MS → Prop) : Nat → Nat → Int → Int → Int → Int → MS → Prop
  | 0, _, _, _, _, _, _ => False
  | n + 1, x0, x3, x4, x5, x6, S => (R32 x6 ∧ R32 x4) ∧ ((x4 ≤ x6) → Q (.inl (some (vI x5))) S) ∧ (¬ (x4 ≤ x6) → S.K x0 = 0 ∧ ∃ b1, S.R x0 5 = some b1 ∧ ((S.K b1 = 13 ∧ 0 ≤ x6 ∧ x6 < S.N b1) ∧ (S.K x0 = 0 ∧ Mw hX0_packed yX0_packed d [vA x0, vI (S.I b1 (x6).toNat)] S (oI (fun r2 S2 => S2.K x0 = 0 ∧ Mw hX0_swapsBetween yX0_swapsBetween d [vA x0, vI r2, vI x3] S2 (oI (fun r3 S3 => (R32 x5 ∧ R32 ((-1) : Int)) ∧ (¬ (x5 = ((-1) : Int)) → (R32 x5 ∧ R32 r3) ∧ (VX0_fewestSwaps_93 d (VX0_fewestSwaps_50 d Q n) Q x0 x3 x4 x6 (min x5 r3) S3)) ∧ ((x5 = ((-1) : Int)) → VX0_fewestSwaps_93 d (VX0_fewestSwaps_50 d Q n) Q x0 x3 x4 x6 r3 S3))))))))
theorem JX0_fewestSwaps_50 {d : Nat} {S0 : MS} {Q : Out → MS → Prop} : ∀ (n : Nat) (x0 : Nat) (x3 : Int) (x4 : Int) (x5 : Int) (x6 : Int) (S : MS), VX0_fewestSwaps_50 d Q n x0 x3 x4 x5 x6 S → Jw FinM RX0 cX0_fewestSwaps 8 (some .int) [] yX0_fewestSwaps (d + 1) S0 S 50 [(0, vA x0), (3, vI x3), (4, vI x4), (5, vI x5), (6, vI x6)] [] Q := by
  intro n
  induction n with
  | zero => intro x0 x3 x4 x5 x6 S h; exact h.elim
  | succ n ih =>
    intro x0 x3 x4 x5 x6 S h
    exact j_iload 4 dX0_fewestSwaps_50 rfl (j_iload 2 dX0_fewestSwaps_52 rfl (j_icmp_ge (tgt := 101) dX0_fewestSwaps_54 (by decide) h (fun h => j_iload 3 dX0_fewestSwaps_101 rfl (j_iret rfl dX0_fewestSwaps_103 h)) (fun h => j_aload_n 0 dX0_fewestSwaps_57 rfl (j_aload_n 0 dX0_fewestSwaps_58 rfl (j_aload_n 0 dX0_fewestSwaps_59 rfl (j_getR 0 5 f_RX0_35 dX0_fewestSwaps_60 h (fun b1 h => j_iload 4 dX0_fewestSwaps_63 rfl (j_iald dX0_fewestSwaps_65 h (fun h => j_callV (rest := [vA x0]) 0 [vI (S.I b1 (x6).toNat)] k_RX0_96 ⟨w_3_74, w_3_75⟩ ⟨_, _, rfl⟩ (by decide) rfl rfl (Nat.le_of_ble_eq_true rfl) dX0_fewestSwaps_66 h (kI (fun r2 S2 h => j_iload_n 1 dX0_fewestSwaps_69 rfl (j_callV (rest := []) 0 [vI r2, vI x3] k_RX0_128 ⟨w_6_13, p_3_4⟩ ⟨_, _, rfl⟩ (by decide) rfl rfl (Nat.le_of_ble_eq_true rfl) dX0_fewestSwaps_70 h (kI (fun r3 S3 h => j_istore (lv2 := [(7, vI r3), (0, vA x0), (3, vI x3), (4, vI x4), (5, vI x5), (6, vI x6)]) dX0_fewestSwaps_73 (by decide) rfl (j_iload 4 dX0_fewestSwaps_75 rfl (j_iconst dX0_fewestSwaps_77 (j_icmp_ne (tgt := 86) dX0_fewestSwaps_78 (by decide) h (fun h => j_iload 4 dX0_fewestSwaps_86 rfl (j_iload 0 dX0_fewestSwaps_88 rfl (j_mmin w_2_222 w_2_64 w_1_16 w_mmin (Nat.le_of_ble_eq_true rfl) dX0_fewestSwaps_90 h (fun h => j_sub [1, 2, 3, 5] rfl (JX0_fewestSwaps_93 ih _ _ _ _ _ _ h))))) (fun h => j_iload 0 dX0_fewestSwaps_81 rfl (j_goto (tgt := 93) dX0_fewestSwaps_83 (by decide) (j_sub [1, 2, 3, 5] rfl (JX0_fewestSwaps_93 ih _ _ _ _ _ _ h))))))))) (fun _ _ h => h.elim)))) (fun _ _ h => h.elim))))))))))
def VX0_fewestSwaps_5 (d : Nat) (Q : Out → MS → Prop) : Nat → Nat → Nat → Int → Int → Int → MS → Prop
  | 0, _, _, _, _, _, _ => False
  | n + 1, x0, x1, x2, x3, x4, S => S.K x0 = 0 ∧ ((R32 x4 ∧ R32 (S.I x0 0)) ∧ (((S.I x0 0) ≤ x4) → S.K x0 = 0 ∧ ∃ b1, S.R x0 5 = some b1 ∧ (S.K x1 = 5 ∧ Mw hX5_list yX5_list d [vA x1, vA b1] S (oI (fun r2 S2 => ∃ m, VX0_fewestSwaps_50 d Q m x0 x3 r2 ((-1)) 0 S2)))) ∧ (¬ ((S.I x0 0) ≤ x4) → Mw hX10_at yX10_at d [vI x2, vI x4] S (oI (fun r3 S3 => (VX0_fewestSwaps_5 d Q n) x0 x1 x2 (iOr x3 (iShl x4 (3 * r3))) (x4 + 1) S3))))
theorem JX0_fewestSwaps_5 {d : Nat} {S0 : MS} {Q : Out → MS → Prop} : ∀ (n : Nat) (x0 : Nat) (x1 : Nat) (x2 : Int) (x3 : Int) (x4 : Int) (S : MS), VX0_fewestSwaps_5 d Q n x0 x1 x2 x3 x4 S → Jw FinM RX0 cX0_fewestSwaps 8 (some .int) [] yX0_fewestSwaps (d + 1) S0 S 5 [(0, vA x0), (1, vA x1), (2, vI x2), (3, vI x3), (4, vI x4)] [] Q := by
  intro n
  induction n with
  | zero => intro x0 x1 x2 x3 x4 S h; exact h.elim
  | succ n ih =>
    intro x0 x1 x2 x3 x4 S h
    exact j_iload 4 dX0_fewestSwaps_5 rfl (j_aload_n 0 dX0_fewestSwaps_7 rfl (j_getI 0 0 f_RX0_17 dX0_fewestSwaps_8 h (fun h => j_icmp_ge (tgt := 34) dX0_fewestSwaps_11 (by decide) h (fun h => j_aload_n 1 dX0_fewestSwaps_34 rfl (j_aload_n 0 dX0_fewestSwaps_35 rfl (j_getR 0 5 f_RX0_35 dX0_fewestSwaps_36 h (fun b1 h => j_callV (rest := []) 5 [vA b1] k_RX0_102 ⟨w_3_237, w_3_238⟩ ⟨_, _, rfl⟩ (by decide) rfl rfl (Nat.le_of_ble_eq_true rfl) dX0_fewestSwaps_39 h (kI (fun r2 S2 h => j_istore (lv2 := [(4, vI r2), (0, vA x0), (1, vA x1), (2, vI x2), (3, vI x3)]) dX0_fewestSwaps_42 (by decide) rfl (j_iconst dX0_fewestSwaps_44 (j_istore (lv2 := [(5, vI ((-1))), (4, vI r2), (0, vA x0), (1, vA x1), (2, vI x2), (3, vI x3)]) dX0_fewestSwaps_45 (by decide) rfl (j_iconst dX0_fewestSwaps_47 (j_istore (lv2 := [(6, vI 0), (5, vI ((-1))), (4, vI r2), (0, vA x0), (1, vA x1), (2, vI x2), (3, vI x3)]) dX0_fewestSwaps_48 (by decide) rfl (Exists.elim h (fun m h => j_sub [3, 6, 2, 1, 0] rfl (JX0_fewestSwaps_50 m _ _ _ _ _ _ h))))))))) (fun _ _ h => h.elim))))) (fun h => j_iload_n 3 dX0_fewestSwaps_14 rfl (j_iload 4 dX0_fewestSwaps_15 rfl (j_iconst dX0_fewestSwaps_17 (j_iload_n 2 dX0_fewestSwaps_18 rfl (j_iload 4 dX0_fewestSwaps_19 rfl (j_callSN (rest := [vI 3, vI x4, vI x3]) [vI x2, vI x4] k_RX0_81 w_3_82 rfl rfl (Nat.le_of_ble_eq_true rfl) dX0_fewestSwaps_21 h (kI (fun r3 S3 h => j_imul dX0_fewestSwaps_24 (j_ishl dX0_fewestSwaps_25 (j_ior dX0_fewestSwaps_26 (j_istore_n (lv2 := [(3, vI (iOr x3 (iShl x4 (3 * r3)))), (0, vA x0), (1, vA x1), (2, vI x2), (4, vI x4)]) dX0_fewestSwaps_27 (by decide) rfl (j_iinc 4 (lv2 := [(4, vI (x4 + 1)), (3, vI (iOr x3 (iShl x4 (3 * r3)))), (0, vA x0), (1, vA x1), (2, vI x2)]) dX0_fewestSwaps_28 rfl (by decide) rfl (j_goto (tgt := 5) dX0_fewestSwaps_31 (by decide) (j_sub [2, 3, 4, 1, 0] rfl (ih _ _ _ _ _ _ h))))))))))))))))))
def VX0_fewestSwaps_0 (d : Nat) (Q : Out → MS → Prop) (x0 : Nat) (x1 : Nat) (x2 : Int) (S : MS) : Prop :=
  ∃ m, VX0_fewestSwaps_5 d Q m x0 x1 x2 0 0 S
theorem JX0_fewestSwaps_0 {d : Nat} {S0 : MS} {Q : Out → MS → Prop} (x0 : Nat) (x1 : Nat) (x2 : Int) (S : MS) (h : VX0_fewestSwaps_0 d Q x0 x1 x2 S) : Jw FinM RX0 cX0_fewestSwaps 8 (some .int) [] yX0_fewestSwaps (d + 1) S0 S 0 [(0, vA x0), (1, vA x1), (2, vI x2)] [] Q :=
  j_iconst dX0_fewestSwaps_0 (j_istore_n (lv2 := [(3, vI 0), (0, vA x0), (1, vA x1), (2, vI x2)]) dX0_fewestSwaps_1 (by decide) rfl (j_iconst dX0_fewestSwaps_2 (j_istore (lv2 := [(4, vI 0), (3, vI 0), (0, vA x0), (1, vA x1), (2, vI x2)]) dX0_fewestSwaps_3 (by decide) rfl (Exists.elim h (fun m h => j_sub [2, 3, 4, 1, 0] rfl (JX0_fewestSwaps_5 m _ _ _ _ _ _ h))))))
theorem MX0_fewestSwaps {d : Nat} {x0 : Nat} {x1 : Nat} {x2 : Int} {S : MS} {Q : Out → MS → Prop} (h : VX0_fewestSwaps_0 d Q x0 x1 x2 S) : Mw hX0_fewestSwaps yX0_fewestSwaps (d + 1) [vA x0, vA x1, vI x2] S Q := Mw.ofJ (by decide) (Nat.le_of_ble_eq_true rfl) (JX0_fewestSwaps_0 _ _ _ S h)
theorem dX0_swapsBetween_0 : decode cX0_swapsBetween 0 = .ok (.iconst 0, 1) := by decide +kernel
theorem dX0_swapsBetween_1 : decode cX0_swapsBetween 1 = .ok (.istore_n 3, 1) := by decide +kernel
theorem dX0_swapsBetween_2 : decode cX0_swapsBetween 2 = .ok (.iconst 0, 1) := by decide +kernel
theorem dX0_swapsBetween_3 : decode cX0_swapsBetween 3 = .ok (.istore 4, 2) := by decide +kernel
theorem dX0_swapsBetween_5 : decode cX0_swapsBetween 5 = .ok (.iload 4, 2) := by decide +kernel
theorem dX0_swapsBetween_7 : decode cX0_swapsBetween 7 = .ok (.aload_n 0, 1) := by decide +kernel
theorem dX0_swapsBetween_8 : decode cX0_swapsBetween 8 = .ok (.getfield 17, 3) := by decide +kernel
theorem dX0_swapsBetween_11 : decode cX0_swapsBetween 11 = .ok (.if_icmp .ge 65, 3) := by decide +kernel
theorem dX0_swapsBetween_14 : decode cX0_swapsBetween 14 = .ok (.iload_n 2, 1) := by decide +kernel
theorem dX0_swapsBetween_15 : decode cX0_swapsBetween 15 = .ok (.iload_n 1, 1) := by decide +kernel
theorem dX0_swapsBetween_16 : decode cX0_swapsBetween 16 = .ok (.iload 4, 2) := by decide +kernel
theorem dX0_swapsBetween_18 : decode cX0_swapsBetween 18 = .ok (.invokestatic 81, 3) := by decide +kernel
theorem dX0_swapsBetween_21 : decode cX0_swapsBetween 21 = .ok (.invokestatic 81, 3) := by decide +kernel
theorem dX0_swapsBetween_24 : decode cX0_swapsBetween 24 = .ok (.istore 5, 2) := by decide +kernel
theorem dX0_swapsBetween_26 : decode cX0_swapsBetween 26 = .ok (.iload 4, 2) := by decide +kernel
theorem dX0_swapsBetween_28 : decode cX0_swapsBetween 28 = .ok (.iconst 1, 1) := by decide +kernel
theorem dX0_swapsBetween_29 : decode cX0_swapsBetween 29 = .ok (.iadd, 1) := by decide +kernel
theorem dX0_swapsBetween_30 : decode cX0_swapsBetween 30 = .ok (.istore 6, 2) := by decide +kernel
theorem dX0_swapsBetween_32 : decode cX0_swapsBetween 32 = .ok (.iload 6, 2) := by decide +kernel
theorem dX0_swapsBetween_34 : decode cX0_swapsBetween 34 = .ok (.aload_n 0, 1) := by decide +kernel
theorem dX0_swapsBetween_35 : decode cX0_swapsBetween 35 = .ok (.getfield 17, 3) := by decide +kernel
theorem dX0_swapsBetween_38 : decode cX0_swapsBetween 38 = .ok (.if_icmp .ge 32, 3) := by decide +kernel
theorem dX0_swapsBetween_41 : decode cX0_swapsBetween 41 = .ok (.iload_n 3, 1) := by decide +kernel
theorem dX0_swapsBetween_42 : decode cX0_swapsBetween 42 = .ok (.iload_n 2, 1) := by decide +kernel
theorem dX0_swapsBetween_43 : decode cX0_swapsBetween 43 = .ok (.iload_n 1, 1) := by decide +kernel
theorem dX0_swapsBetween_44 : decode cX0_swapsBetween 44 = .ok (.iload 6, 2) := by decide +kernel
theorem dX0_swapsBetween_46 : decode cX0_swapsBetween 46 = .ok (.invokestatic 81, 3) := by decide +kernel
theorem dX0_swapsBetween_49 : decode cX0_swapsBetween 49 = .ok (.invokestatic 81, 3) := by decide +kernel
theorem dX0_swapsBetween_52 : decode cX0_swapsBetween 52 = .ok (.iload 5, 2) := by decide +kernel
theorem dX0_swapsBetween_54 : decode cX0_swapsBetween 54 = .ok (.if_icmp .ge 7, 3) := by decide +kernel
theorem dX0_swapsBetween_57 : decode cX0_swapsBetween 57 = .ok (.iconst 1, 1) := by decide +kernel
theorem dX0_swapsBetween_58 : decode cX0_swapsBetween 58 = .ok (.goto 4, 3) := by decide +kernel
theorem dX0_swapsBetween_61 : decode cX0_swapsBetween 61 = .ok (.iconst 0, 1) := by decide +kernel
theorem dX0_swapsBetween_62 : decode cX0_swapsBetween 62 = .ok (.iadd, 1) := by decide +kernel
theorem dX0_swapsBetween_63 : decode cX0_swapsBetween 63 = .ok (.istore_n 3, 1) := by decide +kernel
theorem dX0_swapsBetween_64 : decode cX0_swapsBetween 64 = .ok (.iinc 6 1, 3) := by decide +kernel
theorem dX0_swapsBetween_67 : decode cX0_swapsBetween 67 = .ok (.goto (-35), 3) := by decide +kernel
theorem dX0_swapsBetween_70 : decode cX0_swapsBetween 70 = .ok (.iinc 4 1, 3) := by decide +kernel
theorem dX0_swapsBetween_73 : decode cX0_swapsBetween 73 = .ok (.goto (-68), 3) := by decide +kernel
theorem dX0_swapsBetween_76 : decode cX0_swapsBetween 76 = .ok (.iload_n 3, 1) := by decide +kernel
theorem dX0_swapsBetween_77 : decode cX0_swapsBetween 77 = .ok (.ireturn, 1) := by decide +kernel
def VX0_swapsBetween_62 (d : Nat) (c5 : Nat → Int → Int → Int → Int → MS → Prop) (c32 : Nat → Int → Int → Int → Int → Int → Int → MS → Prop) (Q : Out → MS → Prop) (x0 : Nat) (x1 : Int) (x2 : Int) (x4 : Int) (x5 : Int) (x6 : Int) (t0 : Int) (t1 : Int) (S : MS) : Prop :=
  c32 x0 x1 x2 (t1 + t0) x4 x5 (x6 + 1) S
theorem JX0_swapsBetween_62 {d : Nat} {c5 : Nat → Int → Int → Int → Int → MS → Prop} {c32 : Nat → Int → Int → Int → Int → Int → Int → MS → Prop} {S0 : MS} {Q : Out → MS → Prop} (hc5 : ∀ (x0 : Nat) (x1 : Int) (x2 : Int) (x3 : Int) (x4 : Int) (S : MS), c5 x0 x1 x2 x3 x4 S → Jw FinM RX0 cX0_swapsBetween 7 (some .int) [] yX0_swapsBetween (d + 1) S0 S 5 [(0, vA x0), (1, vI x1), (2, vI x2), (3, vI x3), (4, vI x4)] [] Q) (hc32 : ∀ (x0 : Nat) (x1 : Int) (x2 : Int) (x3 : Int) (x4 : Int) (x5 : Int) (x6 : Int) (S : MS), c32 x0 x1 x2 x3 x4 x5 x6 S → Jw FinM RX0 cX0_swapsBetween 7 (some .int) [] yX0_swapsBetween (d + 1) S0 S 32 [(0, vA x0), (1, vI x1), (2, vI x2), (3, vI x3), (4, vI x4), (5, vI x5), (6, vI x6)] [] Q) (x0 : Nat) (x1 : Int) (x2 : Int) (x4 : Int) (x5 : Int) (x6 : Int) (t0 : Int) (t1 : Int) (S : MS) (h : VX0_swapsBetween_62 d c5 c32 Q x0 x1 x2 x4 x5 x6 t0 t1 S) : Jw FinM RX0 cX0_swapsBetween 7 (some .int) [] yX0_swapsBetween (d + 1) S0 S 62 [(0, vA x0), (1, vI x1), (2, vI x2), (4, vI x4), (5, vI x5), (6, vI x6)] [vI t0, vI t1] Q :=
  j_iadd dX0_swapsBetween_62 (j_istore_n (lv2 := [(3, vI (t1 + t0)), (0, vA x0), (1, vI x1), (2, vI x2), (4, vI x4), (5, vI x5), (6, vI x6)]) dX0_swapsBetween_63 (by decide) rfl (j_iinc 6 (lv2 := [(6, vI (x6 + 1)), (3, vI (t1 + t0)), (0, vA x0), (1, vI x1), (2, vI x2), (4, vI x4), (5, vI x5)]) dX0_swapsBetween_64 rfl (by decide) rfl (j_goto (tgt := 32) dX0_swapsBetween_67 (by decide) (j_sub [2, 3, 4, 1, 5, 6, 0] rfl (hc32 _ _ _ _ _ _ _ _ h)))))
def VX0_swapsBetween_32 (d : Nat) (c5 : Nat → Int → Int → Int → Int → MS → Prop) (Q : Out → MS → Prop) : Nat → Nat → Int → Int → Int → Int → Int → Int → MS → Prop
  | 0, _, _, _, _, _, _, _, _ => False
  | n + 1, x0, x1, x2, x3, x4, x5, x6, S => S.K x0 = 0 ∧ ((R32 x6 ∧ R32 (S.I x0 0)) ∧ (((S.I x0 0) ≤ x6) → c5 x0 x1 x2 x3 (x4 + 1) S) ∧ (¬ ((S.I x0 0) ≤ x6) → Mw hX10_at yX10_at d [vI x1, vI x6] S (oI (fun r1 S1 => Mw hX10_at yX10_at d [vI x2, vI r1] S1 (oI (fun r2 S2 => (R32 r2 ∧ R32 x5) ∧ ((x5 ≤ r2) → VX0_swapsBetween_62 d c5 (VX0_swapsBetween_32 d c5 Q n) Q x0 x1 x2 x4 x5 x6 0 x3 S2) ∧ (¬ (x5 ≤ r2) → VX0_swapsBetween_62 d c5 (VX0_swapsBetween_32 d c5 Q n) Q x0 x1 x2 x4 x5 x6 1 x3 S2)))))))
theorem JX0_swapsBetween_32 {d : Nat} {c5 : Nat → Int → Int → Int → Int → MS → Prop} {S0 : MS} {Q : Out → MS → Prop} (hc5 : ∀ (x0 : Nat) (x1 : Int) (x2 : Int) (x3 : Int) (x4 : Int) (S : MS), c5 x0 x1 x2 x3 x4 S → Jw FinM RX0 cX0_swapsBetween 7 (some .int) [] yX0_swapsBetween (d + 1) S0 S 5 [(0, vA x0), (1, vI x1), (2, vI x2), (3, vI x3), (4, vI x4)] [] Q) : ∀ (n : Nat) (x0 : Nat) (x1 : Int) (x2 : Int) (x3 : Int) (x4 : Int) (x5 : Int) (x6 : Int) (S : MS), VX0_swapsBetween_32 d c5 Q n x0 x1 x2 x3 x4 x5 x6 S → Jw FinM RX0 cX0_swapsBetween 7 (some .int) [] yX0_swapsBetween (d + 1) S0 S 32 [(0, vA x0), (1, vI x1), (2, vI x2), (3, vI x3), (4, vI x4), (5, vI x5), (6, vI x6)] [] Q := by
  intro n
  induction n with
  | zero => intro x0 x1 x2 x3 x4 x5 x6 S h; exact h.elim
  | succ n ih =>
    intro x0 x1 x2 x3 x4 x5 x6 S h
    exact j_iload 6 dX0_swapsBetween_32 rfl (j_aload_n 0 dX0_swapsBetween_34 rfl (j_getI 0 0 f_RX0_17 dX0_swapsBetween_35 h (fun h => j_icmp_ge (tgt := 70) dX0_swapsBetween_38 (by decide) h (fun h => j_iinc 4 (lv2 := [(4, vI (x4 + 1)), (0, vA x0), (1, vI x1), (2, vI x2), (3, vI x3), (5, vI x5), (6, vI x6)]) dX0_swapsBetween_70 rfl (by decide) rfl (j_goto (tgt := 5) dX0_swapsBetween_73 (by decide) (j_sub [1, 2, 3, 4, 0] rfl (hc5 _ _ _ _ _ _ h)))) (fun h => j_iload_n 3 dX0_swapsBetween_41 rfl (j_iload_n 2 dX0_swapsBetween_42 rfl (j_iload_n 1 dX0_swapsBetween_43 rfl (j_iload 6 dX0_swapsBetween_44 rfl (j_callSN (rest := [vI x2, vI x3]) [vI x1, vI x6] k_RX0_81 w_3_82 rfl rfl (Nat.le_of_ble_eq_true rfl) dX0_swapsBetween_46 h (kI (fun r1 S1 h => j_callSN (rest := [vI x3]) [vI x2, vI r1] k_RX0_81 w_3_82 rfl rfl (Nat.le_of_ble_eq_true rfl) dX0_swapsBetween_49 h (kI (fun r2 S2 h => j_iload 5 dX0_swapsBetween_52 rfl (j_icmp_ge (tgt := 61) dX0_swapsBetween_54 (by decide) h (fun h => j_iconst dX0_swapsBetween_61 (j_sub [0, 1, 2, 4, 5, 6] rfl (JX0_swapsBetween_62 hc5 ih _ _ _ _ _ _ _ _ _ h))) (fun h => j_iconst dX0_swapsBetween_57 (j_goto (tgt := 62) dX0_swapsBetween_58 (by decide) (j_sub [0, 1, 2, 4, 5, 6] rfl (JX0_swapsBetween_62 hc5 ih _ _ _ _ _ _ _ _ _ h)))))))))))))))))
def VX0_swapsBetween_5 (d : Nat) (Q : Out → MS → Prop) : Nat → Nat → Int → Int → Int → Int → MS → Prop
  | 0, _, _, _, _, _, _ => False
  | n + 1, x0, x1, x2, x3, x4, S => S.K x0 = 0 ∧ ((R32 x4 ∧ R32 (S.I x0 0)) ∧ (((S.I x0 0) ≤ x4) → Q (.inl (some (vI x3))) S) ∧ (¬ ((S.I x0 0) ≤ x4) → Mw hX10_at yX10_at d [vI x1, vI x4] S (oI (fun r1 S1 => Mw hX10_at yX10_at d [vI x2, vI r1] S1 (oI (fun r2 S2 => ∃ m, VX0_swapsBetween_32 d (VX0_swapsBetween_5 d Q n) Q m x0 x1 x2 x3 x4 r2 (x4 + 1) S2))))))
theorem JX0_swapsBetween_5 {d : Nat} {S0 : MS} {Q : Out → MS → Prop} : ∀ (n : Nat) (x0 : Nat) (x1 : Int) (x2 : Int) (x3 : Int) (x4 : Int) (S : MS), VX0_swapsBetween_5 d Q n x0 x1 x2 x3 x4 S → Jw FinM RX0 cX0_swapsBetween 7 (some .int) [] yX0_swapsBetween (d + 1) S0 S 5 [(0, vA x0), (1, vI x1), (2, vI x2), (3, vI x3), (4, vI x4)] [] Q := by
  intro n
  induction n with
  | zero => intro x0 x1 x2 x3 x4 S h; exact h.elim
  | succ n ih =>
    intro x0 x1 x2 x3 x4 S h
    exact j_iload 4 dX0_swapsBetween_5 rfl (j_aload_n 0 dX0_swapsBetween_7 rfl (j_getI 0 0 f_RX0_17 dX0_swapsBetween_8 h (fun h => j_icmp_ge (tgt := 76) dX0_swapsBetween_11 (by decide) h (fun h => j_iload_n 3 dX0_swapsBetween_76 rfl (j_iret rfl dX0_swapsBetween_77 h)) (fun h => j_iload_n 2 dX0_swapsBetween_14 rfl (j_iload_n 1 dX0_swapsBetween_15 rfl (j_iload 4 dX0_swapsBetween_16 rfl (j_callSN (rest := [vI x2]) [vI x1, vI x4] k_RX0_81 w_3_82 rfl rfl (Nat.le_of_ble_eq_true rfl) dX0_swapsBetween_18 h (kI (fun r1 S1 h => j_callSN (rest := []) [vI x2, vI r1] k_RX0_81 w_3_82 rfl rfl (Nat.le_of_ble_eq_true rfl) dX0_swapsBetween_21 h (kI (fun r2 S2 h => j_istore (lv2 := [(5, vI r2), (0, vA x0), (1, vI x1), (2, vI x2), (3, vI x3), (4, vI x4)]) dX0_swapsBetween_24 (by decide) rfl (j_iload 5 dX0_swapsBetween_26 rfl (j_iconst dX0_swapsBetween_28 (j_iadd dX0_swapsBetween_29 (j_istore (lv2 := [(6, vI (x4 + 1)), (5, vI r2), (0, vA x0), (1, vI x1), (2, vI x2), (3, vI x3), (4, vI x4)]) dX0_swapsBetween_30 (by decide) rfl (Exists.elim h (fun m h => j_sub [2, 3, 4, 5, 6, 1, 0] rfl (JX0_swapsBetween_32 ih m _ _ _ _ _ _ _ _ h))))))))))))))))))
def VX0_swapsBetween_0 (d : Nat) (Q : Out → MS → Prop) (x0 : Nat) (x1 : Int) (x2 : Int) (S : MS) : Prop :=
  ∃ m, VX0_swapsBetween_5 d Q m x0 x1 x2 0 0 S
theorem JX0_swapsBetween_0 {d : Nat} {S0 : MS} {Q : Out → MS → Prop} (x0 : Nat) (x1 : Int) (x2 : Int) (S : MS) (h : VX0_swapsBetween_0 d Q x0 x1 x2 S) : Jw FinM RX0 cX0_swapsBetween 7 (some .int) [] yX0_swapsBetween (d + 1) S0 S 0 [(0, vA x0), (1, vI x1), (2, vI x2)] [] Q :=
  j_iconst dX0_swapsBetween_0 (j_istore_n (lv2 := [(3, vI 0), (0, vA x0), (1, vI x1), (2, vI x2)]) dX0_swapsBetween_1 (by decide) rfl (j_iconst dX0_swapsBetween_2 (j_istore (lv2 := [(4, vI 0), (3, vI 0), (0, vA x0), (1, vI x1), (2, vI x2)]) dX0_swapsBetween_3 (by decide) rfl (Exists.elim h (fun m h => j_sub [2, 3, 4, 1, 0] rfl (JX0_swapsBetween_5 m _ _ _ _ _ _ h))))))
theorem MX0_swapsBetween {d : Nat} {x0 : Nat} {x1 : Int} {x2 : Int} {S : MS} {Q : Out → MS → Prop} (h : VX0_swapsBetween_0 d Q x0 x1 x2 S) : Mw hX0_swapsBetween yX0_swapsBetween (d + 1) [vA x0, vI x1, vI x2] S Q := Mw.ofJ (by decide) (Nat.le_of_ble_eq_true rfl) (JX0_swapsBetween_0 _ _ _ S h)
