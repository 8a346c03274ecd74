theorem dX10_init_0 : decode cX10_init 0 = .ok (.aload_n 0, 1) := by decide +kernel
theorem dX10_init_1 : decode cX10_init 1 = .ok (.invokespecial 1, 3) := by decide +kernel
theorem dX10_init_4 : decode cX10_init 4 = .ok (.aload_n 0, 1) := by decide +kernel
theorem dX10_init_5 : decode cX10_init 5 = .ok (.new 7, 3) := by decide +kernel
theorem dX10_init_8 : decode cX10_init 8 = .ok (.dup, 1) := by decide +kernel
theorem dX10_init_9 : decode cX10_init 9 = .ok (.invokespecial 9, 3) := by decide +kernel
theorem dX10_init_12 : decode cX10_init 12 = .ok (.putfield 10, 3) := by decide +kernel
theorem dX10_init_15 : decode cX10_init 15 = .ok (.aload_n 0, 1) := by decide +kernel
theorem dX10_init_16 : decode cX10_init 16 = .ok (.aload_n 0, 1) := by decide +kernel
theorem dX10_init_17 : decode cX10_init 17 = .ok (.getfield 10, 3) := by decide +kernel
theorem dX10_init_20 : decode cX10_init 20 = .ok (.getfield 16, 3) := by decide +kernel
theorem dX10_init_23 : decode cX10_init 23 = .ok (.putfield 20, 3) := by decide +kernel
theorem dX10_init_26 : decode cX10_init 26 = .ok (.aload_n 0, 1) := by decide +kernel
theorem dX10_init_27 : decode cX10_init 27 = .ok (.new 21, 3) := by decide +kernel
theorem dX10_init_30 : decode cX10_init 30 = .ok (.dup, 1) := by decide +kernel
theorem dX10_init_31 : decode cX10_init 31 = .ok (.invokespecial 23, 3) := by decide +kernel
theorem dX10_init_34 : decode cX10_init 34 = .ok (.putfield 24, 3) := by decide +kernel
theorem dX10_init_37 : decode cX10_init 37 = .ok (.aload_n 0, 1) := by decide +kernel
theorem dX10_init_38 : decode cX10_init 38 = .ok (.new 21, 3) := by decide +kernel
theorem dX10_init_41 : decode cX10_init 41 = .ok (.dup, 1) := by decide +kernel
theorem dX10_init_42 : decode cX10_init 42 = .ok (.invokespecial 23, 3) := by decide +kernel
theorem dX10_init_45 : decode cX10_init 45 = .ok (.putfield 28, 3) := by decide +kernel
theorem dX10_init_48 : decode cX10_init 48 = .ok (.aload_n 0, 1) := by decide +kernel
theorem dX10_init_49 : decode cX10_init 49 = .ok (.iconst 5, 1) := by decide +kernel
theorem dX10_init_50 : decode cX10_init 50 = .ok (.anewarray 31, 3) := by decide +kernel
theorem dX10_init_53 : decode cX10_init 53 = .ok (.putfield 33, 3) := by decide +kernel
theorem dX10_init_56 : decode cX10_init 56 = .ok (.aload_n 0, 1) := by decide +kernel
theorem dX10_init_57 : decode cX10_init 57 = .ok (.new 37, 3) := by decide +kernel
theorem dX10_init_60 : decode cX10_init 60 = .ok (.dup, 1) := by decide +kernel
theorem dX10_init_61 : decode cX10_init 61 = .ok (.invokespecial 39, 3) := by decide +kernel
theorem dX10_init_64 : decode cX10_init 64 = .ok (.putfield 40, 3) := by decide +kernel
theorem dX10_init_67 : decode cX10_init 67 = .ok (.aload_n 0, 1) := by decide +kernel
theorem dX10_init_68 : decode cX10_init 68 = .ok (.new 44, 3) := by decide +kernel
theorem dX10_init_71 : decode cX10_init 71 = .ok (.dup, 1) := by decide +kernel
theorem dX10_init_72 : decode cX10_init 72 = .ok (.invokespecial 46, 3) := by decide +kernel
theorem dX10_init_75 : decode cX10_init 75 = .ok (.putfield 47, 3) := by decide +kernel
theorem dX10_init_78 : decode cX10_init 78 = .ok (.aload_n 0, 1) := by decide +kernel
theorem dX10_init_79 : decode cX10_init 79 = .ok (.bipush 40, 2) := by decide +kernel
theorem dX10_init_81 : decode cX10_init 81 = .ok (.anewarray 44, 3) := by decide +kernel
theorem dX10_init_84 : decode cX10_init 84 = .ok (.putfield 51, 3) := by decide +kernel
theorem dX10_init_87 : decode cX10_init 87 = .ok (.aload_n 0, 1) := by decide +kernel
theorem dX10_init_88 : decode cX10_init 88 = .ok (.new 55, 3) := by decide +kernel
theorem dX10_init_91 : decode cX10_init 91 = .ok (.dup, 1) := by decide +kernel
theorem dX10_init_92 : decode cX10_init 92 = .ok (.invokespecial 57, 3) := by decide +kernel
theorem dX10_init_95 : decode cX10_init 95 = .ok (.putfield 58, 3) := by decide +kernel
theorem dX10_init_98 : decode cX10_init 98 = .ok (.aload_n 0, 1) := by decide +kernel
theorem dX10_init_99 : decode cX10_init 99 = .ok (.new 62, 3) := by decide +kernel
theorem dX10_init_102 : decode cX10_init 102 = .ok (.dup, 1) := by decide +kernel
theorem dX10_init_103 : decode cX10_init 103 = .ok (.invokespecial 64, 3) := by decide +kernel
theorem dX10_init_106 : decode cX10_init 106 = .ok (.putfield 65, 3) := by decide +kernel
theorem dX10_init_109 : decode cX10_init 109 = .ok (.aload_n 0, 1) := by decide +kernel
theorem dX10_init_110 : decode cX10_init 110 = .ok (.new 69, 3) := by decide +kernel
theorem dX10_init_113 : decode cX10_init 113 = .ok (.dup, 1) := by decide +kernel
theorem dX10_init_114 : decode cX10_init 114 = .ok (.invokespecial 71, 3) := by decide +kernel
theorem dX10_init_117 : decode cX10_init 117 = .ok (.putfield 72, 3) := by decide +kernel
theorem dX10_init_120 : decode cX10_init 120 = .ok (.aload_n 0, 1) := by decide +kernel
theorem dX10_init_121 : decode cX10_init 121 = .ok (.bipush 33, 2) := by decide +kernel
theorem dX10_init_123 : decode cX10_init 123 = .ok (.newarray .int, 2) := by decide +kernel
theorem dX10_init_125 : decode cX10_init 125 = .ok (.putfield 76, 3) := by decide +kernel
theorem dX10_init_128 : decode cX10_init 128 = .ok (.aload_n 0, 1) := by decide +kernel
theorem dX10_init_129 : decode cX10_init 129 = .ok (.iconst 0, 1) := by decide +kernel
theorem dX10_init_130 : decode cX10_init 130 = .ok (.putfield 80, 3) := by decide +kernel
theorem dX10_init_133 : decode cX10_init 133 = .ok (.aload_n 0, 1) := by decide +kernel
theorem dX10_init_134 : decode cX10_init 134 = .ok (.iconst 0, 1) := by decide +kernel
theorem dX10_init_135 : decode cX10_init 135 = .ok (.putfield 84, 3) := by decide +kernel
theorem dX10_init_138 : decode cX10_init 138 = .ok (.aload_n 0, 1) := by decide +kernel
theorem dX10_init_139 : decode cX10_init 139 = .ok (.iconst (-1), 1) := by decide +kernel
theorem dX10_init_140 : decode cX10_init 140 = .ok (.putfield 87, 3) := by decide +kernel
theorem dX10_init_143 : decode cX10_init 143 = .ok (.iconst 0, 1) := by decide +kernel
theorem dX10_init_144 : decode cX10_init 144 = .ok (.istore_n 1, 1) := by decide +kernel
theorem dX10_init_145 : decode cX10_init 145 = .ok (.iload_n 1, 1) := by decide +kernel
theorem dX10_init_146 : decode cX10_init 146 = .ok (.aload_n 0, 1) := by decide +kernel
theorem dX10_init_147 : decode cX10_init 147 = .ok (.getfield 51, 3) := by decide +kernel
theorem dX10_init_150 : decode cX10_init 150 = .ok (.arraylength, 1) := by decide +kernel
theorem dX10_init_151 : decode cX10_init 151 = .ok (.if_icmp .ge 22, 3) := by decide +kernel
theorem dX10_init_154 : decode cX10_init 154 = .ok (.aload_n 0, 1) := by decide +kernel
theorem dX10_init_155 : decode cX10_init 155 = .ok (.getfield 51, 3) := by decide +kernel
theorem dX10_init_158 : decode cX10_init 158 = .ok (.iload_n 1, 1) := by decide +kernel
theorem dX10_init_159 : decode cX10_init 159 = .ok (.new 44, 3) := by decide +kernel
theorem dX10_init_162 : decode cX10_init 162 = .ok (.dup, 1) := by decide +kernel
theorem dX10_init_163 : decode cX10_init 163 = .ok (.invokespecial 46, 3) := by decide +kernel
theorem dX10_init_166 : decode cX10_init 166 = .ok (.aastore, 1) := by decide +kernel
theorem dX10_init_167 : decode cX10_init 167 = .ok (.iinc 1 1, 3) := by decide +kernel
theorem dX10_init_170 : decode cX10_init 170 = .ok (.goto (-25), 3) := by decide +kernel
theorem dX10_init_173 : decode cX10_init 173 = .ok (.return_, 1) := by decide +kernel
def VX10_init_145 (d : Nat) (Q : Out → MS → Prop) : Nat → Nat → Int → MS → Prop
  | 0, _, _, _ => False
  | n + 1, x0, x1, S => S.K x0 = 10 ∧ ∃ b1, S.R x0 7 = some b1 ∧ ((12 ≤ S.K b1 ∧ S.K b1 < 21) ∧ ((R32 x1 ∧ R32 ((S.N b1 : Int))) ∧ ((((S.N b1 : Int)) ≤ x1) → Q (.inl none) S) ∧ (¬ (((S.N b1 : Int)) ≤ x1) → S.K x0 = 10 ∧ ∃ b2, S.R x0 7 = some b2 ∧ (Mw hX5_init yX5_init d [vA S.nx] (S.mk 5 4) (oV (fun S3 => (S3.K b2 = 19 ∧ S3.K S.nx = 5 ∧ 0 ≤ x1 ∧ x1 < S3.N b2) ∧ ((VX10_init_145 d Q n) x0 (x1 + 1) (S3.setR b2 (x1).toNat (some S.nx)))))))))
theorem JX10_init_145 {d : Nat} {S0 : MS} {Q : Out → MS → Prop} : ∀ (n : Nat) (x0 : Nat) (x1 : Int) (S : MS), VX10_init_145 d Q n x0 x1 S → Jw FinM RX10 cX10_init 2 none [] yX10_init (d + 1) S0 S 145 [(0, vA x0), (1, vI x1)] [] Q := by
  intro n
  induction n with
  | zero => intro x0 x1 S h; exact h.elim
  | succ n ih =>
    intro x0 x1 S h
    exact j_iload_n 1 dX10_init_145 rfl (j_aload_n 0 dX10_init_146 rfl (j_getR 10 7 f_RX10_51 dX10_init_147 h (fun b1 h => j_alen dX10_init_150 h (fun h => j_icmp_ge (tgt := 173) dX10_init_151 (by decide) h (fun h => j_vret rfl dX10_init_173 h) (fun h => j_aload_n 0 dX10_init_154 rfl (j_getR 10 7 f_RX10_51 dX10_init_155 h (fun b2 h => j_iload_n 1 dX10_init_158 rfl (j_new 5 n_RX10_44 dX10_init_159 (j_dup rfl dX10_init_162 (j_callIN (rest := [vA S.nx, vI x1, vA b2]) [] k_RX10_46 rfl w_1_162 rfl rfl (Nat.le_of_ble_eq_true rfl) dX10_init_163 h (kV (fun S3 h => j_aast 19 5 ⟨_, _, _, rfl, rfl⟩ (by decide) (by decide) dX10_init_166 h (fun h => j_iinc 1 (lv2 := [(1, vI (x1 + 1)), (0, vA x0)]) dX10_init_167 rfl (by decide) rfl (j_goto (tgt := 145) dX10_init_170 (by decide) (j_sub [1, 0] rfl (ih _ _ _ h))))))))))))))))
def VX10_init_0 (d : Nat) (Q : Out → MS → Prop) (x0 : Nat) (S : MS) : Prop :=
  Mw hX4_init yX4_init d [vA S.nx] (S.mk 4 6) (oV (fun S1 => S1.K x0 = 10 ∧ ((S1.setR x0 0 (some S.nx)).K x0 = 10 ∧ ∃ b2, (S1.setR x0 0 (some S.nx)).R x0 0 = some b2 ∧ ((S1.setR x0 0 (some S.nx)).K b2 = 4 ∧ ∃ b3, (S1.setR x0 0 (some S.nx)).R b2 0 = some b3 ∧ ((S1.setR x0 0 (some S.nx)).K x0 = 10 ∧ (Mw hX7_init yX7_init d [vA (((S1.setR x0 0 (some S.nx)).setR x0 1 (some b3)).nx)] (((S1.setR x0 0 (some S.nx)).setR x0 1 (some b3)).mk 7 11) (oV (fun S4 => S4.K x0 = 10 ∧ (Mw hX7_init yX7_init d [vA ((S4.setR x0 2 (some (((S1.setR x0 0 (some S.nx)).setR x0 1 (some b3)).nx))).nx)] ((S4.setR x0 2 (some (((S1.setR x0 0 (some S.nx)).setR x0 1 (some b3)).nx))).mk 7 11) (oV (fun S5 => S5.K x0 = 10 ∧ (∀ S6 : MS, S6 = S5.setR x0 3 (some ((S4.setR x0 2 (some (((S1.setR x0 0 (some S.nx)).setR x0 1 (some b3)).nx))).nx)) → (0 ≤ (5 : Int) ∧ (5 : Int) < 1000000) ∧ ((S6.mk 17 ((5 : Int)).toNat).K x0 = 10 ∧ (Mw hX1_init yX1_init d [vA (((S6.mk 17 ((5 : Int)).toNat).setR x0 4 (some S6.nx)).nx)] (((S6.mk 17 ((5 : Int)).toNat).setR x0 4 (some S6.nx)).mk 1 1) (oV (fun S7 => S7.K x0 = 10 ∧ (Mw hX5_init yX5_init d [vA ((S7.setR x0 5 (some (((S6.mk 17 ((5 : Int)).toNat).setR x0 4 (some S6.nx)).nx))).nx)] ((S7.setR x0 5 (some (((S6.mk 17 ((5 : Int)).toNat).setR x0 4 (some S6.nx)).nx))).mk 5 4) (oV (fun S8 => S8.K x0 = 10 ∧ (∀ S9 : MS, S9 = S8.setR x0 6 (some ((S7.setR x0 5 (some (((S6.mk 17 ((5 : Int)).toNat).setR x0 4 (some S6.nx)).nx))).nx)) → (0 ≤ (40 : Int) ∧ (40 : Int) < 1000000) ∧ ((S9.mk 19 ((40 : Int)).toNat).K x0 = 10 ∧ (Mw hX9_init yX9_init d [vA (((S9.mk 19 ((40 : Int)).toNat).setR x0 7 (some S9.nx)).nx)] (((S9.mk 19 ((40 : Int)).toNat).setR x0 7 (some S9.nx)).mk 9 3) (oV (fun S10 => S10.K x0 = 10 ∧ (Mw hX3_init yX3_init d [vA ((S10.setR x0 8 (some (((S9.mk 19 ((40 : Int)).toNat).setR x0 7 (some S9.nx)).nx))).nx)] ((S10.setR x0 8 (some (((S9.mk 19 ((40 : Int)).toNat).setR x0 7 (some S9.nx)).nx))).mk 3 1) (oV (fun S11 => S11.K x0 = 10 ∧ (∀ S12 : MS, S12 = S11.setR x0 9 (some ((S10.setR x0 8 (some (((S9.mk 19 ((40 : Int)).toNat).setR x0 7 (some S9.nx)).nx))).nx)) → Mw hX6_init yX6_init d [vA S12.nx] (S12.mk 6 2) (oV (fun S13 => S13.K x0 = 10 ∧ ((0 ≤ (33 : Int) ∧ (33 : Int) < 1000000) ∧ (((S13.setR x0 10 (some S12.nx)).mk 13 ((33 : Int)).toNat).K x0 = 10 ∧ (∀ S14 : MS, S14 = ((S13.setR x0 10 (some S12.nx)).mk 13 ((33 : Int)).toNat).setR x0 11 (some ((S13.setR x0 10 (some S12.nx)).nx)) → (S14.K x0 = 10 ∧ B01 0) ∧ (((S14.setI x0 12 0).K x0 = 10 ∧ B01 0) ∧ (((S14.setI x0 12 0).setI x0 13 0).K x0 = 10 ∧ (∃ m, VX10_init_145 d Q m x0 0 (((S14.setI x0 12 0).setI x0 13 0).setI x0 14 ((-1)))))))))))))))))))))))))))))))))))))))
theorem JX10_init_0 {d : Nat} {S0 : MS} {Q : Out → MS → Prop} (x0 : Nat) (S : MS) (h : VX10_init_0 d Q x0 S) : Jw FinM RX10 cX10_init 2 none [] yX10_init (d + 1) S0 S 0 [(0, vA x0)] [] Q :=
  j_aload_n 0 dX10_init_0 rfl (j_objInit w_1_35 dX10_init_1 (Nat.le_of_ble_eq_true rfl) w_1_36 w_objInit (j_aload_n 0 dX10_init_4 rfl (j_new 4 n_RX10_7 dX10_init_5 (j_dup rfl dX10_init_8 (j_callIN (rest := [vA S.nx, vA x0]) [] k_RX10_9 rfl w_1_41 rfl rfl (Nat.le_of_ble_eq_true rfl) dX10_init_9 h (kV (fun S1 h => j_putFR 10 0 f_RX10_10 (by intro q h; cases h; rfl) rfl (fun b => ⟨rfl, rfl⟩) dX10_init_12 h (fun h => j_aload_n 0 dX10_init_15 rfl (j_aload_n 0 dX10_init_16 rfl (j_getR 10 0 f_RX10_10 dX10_init_17 h (fun b2 h => j_getR 4 0 f_RX10_16 dX10_init_20 h (fun b3 h => j_putFR 10 1 f_RX10_20 (by intro q h; cases h; rfl) rfl (fun b => ⟨rfl, rfl⟩) dX10_init_23 h (fun h => j_aload_n 0 dX10_init_26 rfl (j_new 7 n_RX10_21 dX10_init_27 (j_dup rfl dX10_init_30 (j_callIN (rest := [vA (((S1.setR x0 0 (some S.nx)).setR x0 1 (some b3)).nx), vA x0]) [] k_RX10_23 rfl w_1_62 rfl rfl (Nat.le_of_ble_eq_true rfl) dX10_init_31 h (kV (fun S4 h => j_putFR 10 2 f_RX10_24 (by intro q h; cases h; rfl) rfl (fun b => ⟨rfl, rfl⟩) dX10_init_34 h (fun h => j_aload_n 0 dX10_init_37 rfl (j_new 7 n_RX10_21 dX10_init_38 (j_dup rfl dX10_init_41 (j_callIN (rest := [vA ((S4.setR x0 2 (some (((S1.setR x0 0 (some S.nx)).setR x0 1 (some b3)).nx))).nx), vA x0]) [] k_RX10_23 rfl w_1_62 rfl rfl (Nat.le_of_ble_eq_true rfl) dX10_init_42 h (kV (fun S5 h => j_putFR 10 3 f_RX10_28 (by intro q h; cases h; rfl) rfl (fun b => ⟨rfl, rfl⟩) dX10_init_45 h (fun h => j_bind h (fun S6 h => j_aload_n 0 dX10_init_48 rfl (j_iconst dX10_init_49 (j_anew 17 rfl (by decide) (List.mem_of_getElem? (i := 0) rfl) w_1_144 dX10_init_50 h (fun h => j_putFR 10 4 f_RX10_33 (by intro q h; cases h; rfl) rfl (fun b => ⟨rfl, rfl⟩) dX10_init_53 h (fun h => j_aload_n 0 dX10_init_56 rfl (j_new 1 n_RX10_37 dX10_init_57 (j_dup rfl dX10_init_60 (j_callIN (rest := [vA (((S6.mk 17 ((5 : Int)).toNat).setR x0 4 (some S6.nx)).nx), vA x0]) [] k_RX10_39 rfl w_1_149 rfl rfl (Nat.le_of_ble_eq_true rfl) dX10_init_61 h (kV (fun S7 h => j_putFR 10 5 f_RX10_40 (by intro q h; cases h; rfl) rfl (fun b => ⟨rfl, rfl⟩) dX10_init_64 h (fun h => j_aload_n 0 dX10_init_67 rfl (j_new 5 n_RX10_44 dX10_init_68 (j_dup rfl dX10_init_71 (j_callIN (rest := [vA ((S7.setR x0 5 (some (((S6.mk 17 ((5 : Int)).toNat).setR x0 4 (some S6.nx)).nx))).nx), vA x0]) [] k_RX10_46 rfl w_1_162 rfl rfl (Nat.le_of_ble_eq_true rfl) dX10_init_72 h (kV (fun S8 h => j_putFR 10 6 f_RX10_47 (by intro q h; cases h; rfl) rfl (fun b => ⟨rfl, rfl⟩) dX10_init_75 h (fun h => j_bind h (fun S9 h => j_aload_n 0 dX10_init_78 rfl (j_bipush dX10_init_79 rfl (j_anew 19 rfl (by decide) (List.mem_of_getElem? (i := 2) rfl) w_1_159 dX10_init_81 h (fun h => j_putFR 10 7 f_RX10_51 (by intro q h; cases h; rfl) rfl (fun b => ⟨rfl, rfl⟩) dX10_init_84 h (fun h => j_aload_n 0 dX10_init_87 rfl (j_new 9 n_RX10_55 dX10_init_88 (j_dup rfl dX10_init_91 (j_callIN (rest := [vA (((S9.mk 19 ((40 : Int)).toNat).setR x0 7 (some S9.nx)).nx), vA x0]) [] k_RX10_57 rfl w_1_188 rfl rfl (Nat.le_of_ble_eq_true rfl) dX10_init_92 h (kV (fun S10 h => j_putFR 10 8 f_RX10_58 (by intro q h; cases h; rfl) rfl (fun b => ⟨rfl, rfl⟩) dX10_init_95 h (fun h => j_aload_n 0 dX10_init_98 rfl (j_new 3 n_RX10_62 dX10_init_99 (j_dup rfl dX10_init_102 (j_callIN (rest := [vA ((S10.setR x0 8 (some (((S9.mk 19 ((40 : Int)).toNat).setR x0 7 (some S9.nx)).nx))).nx), vA x0]) [] k_RX10_64 rfl w_1_207 rfl rfl (Nat.le_of_ble_eq_true rfl) dX10_init_103 h (kV (fun S11 h => j_putFR 10 9 f_RX10_65 (by intro q h; cases h; rfl) rfl (fun b => ⟨rfl, rfl⟩) dX10_init_106 h (fun h => j_bind h (fun S12 h => j_aload_n 0 dX10_init_109 rfl (j_new 6 n_RX10_69 dX10_init_110 (j_dup rfl dX10_init_113 (j_callIN (rest := [vA S12.nx, vA x0]) [] k_RX10_71 rfl w_1_217 rfl rfl (Nat.le_of_ble_eq_true rfl) dX10_init_114 h (kV (fun S13 h => j_putFR 10 10 f_RX10_72 (by intro q h; cases h; rfl) rfl (fun b => ⟨rfl, rfl⟩) dX10_init_117 h (fun h => j_aload_n 0 dX10_init_120 rfl (j_bipush dX10_init_121 rfl (j_newb 13 dX10_init_123 rfl (by decide) w_1_58 h (fun h => j_putFR 10 11 f_RX10_76 (by intro q h; cases h; rfl) rfl (fun b => ⟨rfl, rfl⟩) dX10_init_125 h (fun h => j_bind h (fun S14 h => j_aload_n 0 dX10_init_128 rfl (j_iconst dX10_init_129 (j_putZ 10 12 f_RX10_80 dX10_init_130 h (fun h => j_aload_n 0 dX10_init_133 rfl (j_iconst dX10_init_134 (j_putZ 10 13 f_RX10_84 dX10_init_135 h (fun h => j_aload_n 0 dX10_init_138 rfl (j_iconst dX10_init_139 (j_putI 10 14 f_RX10_87 dX10_init_140 h (fun h => j_iconst dX10_init_143 (j_istore_n (lv2 := [(1, vI 0), (0, vA x0)]) dX10_init_144 (by decide) rfl (Exists.elim h (fun m h => j_sub [1, 0] rfl (JX10_init_145 m _ _ _ h))))))))))))))))))))))))))))))))))))))))))))))))))))))))))))))))))))))))))))))))))))
theorem MX10_init {d : Nat} {x0 : Nat} {S : MS} {Q : Out → MS → Prop} (h : VX10_init_0 d Q x0 S) : Mw hX10_init yX10_init (d + 1) [vA x0] S Q := Mw.ofJ (by decide) (Nat.le_of_ble_eq_true rfl) (JX10_init_0 _ S h)
theorem dX10_feed_0 : decode cX10_feed 0 = .ok (.aload_n 0, 1) := by decide +kernel
theorem dX10_feed_1 : decode cX10_feed 1 = .ok (.getfield 20, 3) := by decide +kernel
theorem dX10_feed_4 : decode cX10_feed 4 = .ok (.getfield 91, 3) := by decide +kernel
theorem dX10_feed_7 : decode cX10_feed 7 = .ok (.bipush 20, 2) := by decide +kernel
theorem dX10_feed_9 : decode cX10_feed 9 = .ok (.iadd, 1) := by decide +kernel
theorem dX10_feed_10 : decode cX10_feed 10 = .ok (.sipush 400, 3) := by decide +kernel
theorem dX10_feed_13 : decode cX10_feed 13 = .ok (.if_icmp .le 5, 3) := by decide +kernel
theorem dX10_feed_16 : decode cX10_feed 16 = .ok (.iconst (-1), 1) := by decide +kernel
theorem dX10_feed_17 : decode cX10_feed 17 = .ok (.ireturn, 1) := by decide +kernel
theorem dX10_feed_18 : decode cX10_feed 18 = .ok (.aload_n 0, 1) := by decide +kernel
theorem dX10_feed_19 : decode cX10_feed 19 = .ok (.getfield 20, 3) := by decide +kernel
theorem dX10_feed_22 : decode cX10_feed 22 = .ok (.iload_n 1, 1) := by decide +kernel
theorem dX10_feed_23 : decode cX10_feed 23 = .ok (.invokevirtual 96, 3) := by decide +kernel
theorem dX10_feed_26 : decode cX10_feed 26 = .ok (.aload_n 0, 1) := by decide +kernel
theorem dX10_feed_27 : decode cX10_feed 27 = .ok (.getfield 20, 3) := by decide +kernel
theorem dX10_feed_30 : decode cX10_feed 30 = .ok (.iload_n 2, 1) := by decide +kernel
theorem dX10_feed_31 : decode cX10_feed 31 = .ok (.invokevirtual 96, 3) := by decide +kernel
theorem dX10_feed_34 : decode cX10_feed 34 = .ok (.aload_n 0, 1) := by decide +kernel
theorem dX10_feed_35 : decode cX10_feed 35 = .ok (.getfield 20, 3) := by decide +kernel
theorem dX10_feed_38 : decode cX10_feed 38 = .ok (.iload_n 3, 1) := by decide +kernel
theorem dX10_feed_39 : decode cX10_feed 39 = .ok (.invokevirtual 96, 3) := by decide +kernel
theorem dX10_feed_42 : decode cX10_feed 42 = .ok (.aload_n 0, 1) := by decide +kernel
theorem dX10_feed_43 : decode cX10_feed 43 = .ok (.getfield 20, 3) := by decide +kernel
theorem dX10_feed_46 : decode cX10_feed 46 = .ok (.iload 4, 2) := by decide +kernel
theorem dX10_feed_48 : decode cX10_feed 48 = .ok (.invokevirtual 96, 3) := by decide +kernel
theorem dX10_feed_51 : decode cX10_feed 51 = .ok (.aload_n 0, 1) := by decide +kernel
theorem dX10_feed_52 : decode cX10_feed 52 = .ok (.getfield 20, 3) := by decide +kernel
theorem dX10_feed_55 : decode cX10_feed 55 = .ok (.iload 5, 2) := by decide +kernel
theorem dX10_feed_57 : decode cX10_feed 57 = .ok (.invokevirtual 96, 3) := by decide +kernel
theorem dX10_feed_60 : decode cX10_feed 60 = .ok (.aload_n 0, 1) := by decide +kernel
theorem dX10_feed_61 : decode cX10_feed 61 = .ok (.getfield 20, 3) := by decide +kernel
theorem dX10_feed_64 : decode cX10_feed 64 = .ok (.getfield 91, 3) := by decide +kernel
theorem dX10_feed_67 : decode cX10_feed 67 = .ok (.ireturn, 1) := by decide +kernel
def VX10_feed_0 (d : Nat) (Q : Out → MS → Prop) (x0 : Nat) (x1 : Int) (x2 : Int) (x3 : Int) (x4 : Int) (x5 : Int) (S : MS) : Prop :=
  S.K x0 = 10 ∧ ∃ b1, S.R x0 1 = some b1 ∧ (S.K b1 = 8 ∧ ((R32 ((S.I b1 1) + 20) ∧ R32 (400 : Int)) ∧ ((((S.I b1 1) + 20) ≤ (400 : Int)) → S.K x0 = 10 ∧ ∃ b2, S.R x0 1 = some b2 ∧ (S.K b2 = 8 ∧ Mw hX8_put yX8_put d [vA b2, vI x1] S (oV (fun S3 => S3.K x0 = 10 ∧ ∃ b4, S3.R x0 1 = some b4 ∧ (S3.K b4 = 8 ∧ Mw hX8_put yX8_put d [vA b4, vI x2] S3 (oV (fun S5 => S5.K x0 = 10 ∧ ∃ b6, S5.R x0 1 = some b6 ∧ (S5.K b6 = 8 ∧ Mw hX8_put yX8_put d [vA b6, vI x3] S5 (oV (fun S7 => S7.K x0 = 10 ∧ ∃ b8, S7.R x0 1 = some b8 ∧ (S7.K b8 = 8 ∧ Mw hX8_put yX8_put d [vA b8, vI x4] S7 (oV (fun S9 => S9.K x0 = 10 ∧ ∃ b10, S9.R x0 1 = some b10 ∧ (S9.K b10 = 8 ∧ Mw hX8_put yX8_put d [vA b10, vI x5] S9 (oV (fun S11 => S11.K x0 = 10 ∧ ∃ b12, S11.R x0 1 = some b12 ∧ (S11.K b12 = 8 ∧ (Q (.inl (some (vI (S11.I b12 1)))) S11)))))))))))))))))) ∧ (¬ (((S.I b1 1) + 20) ≤ (400 : Int)) → Q (.inl (some (vI ((-1))))) S)))
theorem JX10_feed_0 {d : Nat} {S0 : MS} {Q : Out → MS → Prop} (x0 : Nat) (x1 : Int) (x2 : Int) (x3 : Int) (x4 : Int) (x5 : Int) (S : MS) (h : VX10_feed_0 d Q x0 x1 x2 x3 x4 x5 S) : Jw FinM RX10 cX10_feed 6 (some .int) [] yX10_feed (d + 1) S0 S 0 [(0, vA x0), (1, vI x1), (2, vI x2), (3, vI x3), (4, vI x4), (5, vI x5)] [] Q :=
  j_aload_n 0 dX10_feed_0 rfl (j_getR 10 1 f_RX10_20 dX10_feed_1 h (fun b1 h => j_getI 8 1 f_RX10_91 dX10_feed_4 h (fun h => j_bipush dX10_feed_7 rfl (j_iadd dX10_feed_9 (j_sipush dX10_feed_10 rfl (j_icmp_le (tgt := 18) dX10_feed_13 (by decide) h (fun h => j_aload_n 0 dX10_feed_18 rfl (j_getR 10 1 f_RX10_20 dX10_feed_19 h (fun b2 h => j_iload_n 1 dX10_feed_22 rfl (j_callV (rest := []) 8 [vI x1] k_RX10_96 ⟨w_2_40, w_2_41⟩ ⟨_, _, rfl⟩ (by decide) rfl rfl (Nat.le_of_ble_eq_true rfl) dX10_feed_23 h (kV (fun S3 h => j_aload_n 0 dX10_feed_26 rfl (j_getR 10 1 f_RX10_20 dX10_feed_27 h (fun b4 h => j_iload_n 2 dX10_feed_30 rfl (j_callV (rest := []) 8 [vI x2] k_RX10_96 ⟨w_2_40, w_2_41⟩ ⟨_, _, rfl⟩ (by decide) rfl rfl (Nat.le_of_ble_eq_true rfl) dX10_feed_31 h (kV (fun S5 h => j_aload_n 0 dX10_feed_34 rfl (j_getR 10 1 f_RX10_20 dX10_feed_35 h (fun b6 h => j_iload_n 3 dX10_feed_38 rfl (j_callV (rest := []) 8 [vI x3] k_RX10_96 ⟨w_2_40, w_2_41⟩ ⟨_, _, rfl⟩ (by decide) rfl rfl (Nat.le_of_ble_eq_true rfl) dX10_feed_39 h (kV (fun S7 h => j_aload_n 0 dX10_feed_42 rfl (j_getR 10 1 f_RX10_20 dX10_feed_43 h (fun b8 h => j_iload 4 dX10_feed_46 rfl (j_callV (rest := []) 8 [vI x4] k_RX10_96 ⟨w_2_40, w_2_41⟩ ⟨_, _, rfl⟩ (by decide) rfl rfl (Nat.le_of_ble_eq_true rfl) dX10_feed_48 h (kV (fun S9 h => j_aload_n 0 dX10_feed_51 rfl (j_getR 10 1 f_RX10_20 dX10_feed_52 h (fun b10 h => j_iload 5 dX10_feed_55 rfl (j_callV (rest := []) 8 [vI x5] k_RX10_96 ⟨w_2_40, w_2_41⟩ ⟨_, _, rfl⟩ (by decide) rfl rfl (Nat.le_of_ble_eq_true rfl) dX10_feed_57 h (kV (fun S11 h => j_aload_n 0 dX10_feed_60 rfl (j_getR 10 1 f_RX10_20 dX10_feed_61 h (fun b12 h => j_getI 8 1 f_RX10_91 dX10_feed_64 h (fun h => j_iret rfl dX10_feed_67 h))))) (fun _ _ h => h.elim)))))) (fun _ _ h => h.elim)))))) (fun _ _ h => h.elim)))))) (fun _ _ h => h.elim)))))) (fun _ _ h => h.elim))))) (fun h => j_iconst dX10_feed_16 (j_iret rfl dX10_feed_17 h))))))))
theorem MX10_feed {d : Nat} {x0 : Nat} {x1 : Int} {x2 : Int} {x3 : Int} {x4 : Int} {x5 : Int} {S : MS} {Q : Out → MS → Prop} (h : VX10_feed_0 d Q x0 x1 x2 x3 x4 x5 S) : Mw hX10_feed yX10_feed (d + 1) [vA x0, vI x1, vI x2, vI x3, vI x4, vI x5] S Q := Mw.ofJ (by decide) (Nat.le_of_ble_eq_true rfl) (JX10_feed_0 _ _ _ _ _ _ S h)
theorem dX10_end_0 : decode cX10_end 0 = .ok (.iload_n 1, 1) := by decide +kernel
theorem dX10_end_1 : decode cX10_end 1 = .ok (.ifCond .lt 14, 3) := by decide +kernel
theorem dX10_end_4 : decode cX10_end 4 = .ok (.iload_n 1, 1) := by decide +kernel
theorem dX10_end_5 : decode cX10_end 5 = .ok (.aload_n 0, 1) := by decide +kernel
theorem dX10_end_6 : decode cX10_end 6 = .ok (.getfield 20, 3) := by decide +kernel
theorem dX10_end_9 : decode cX10_end 9 = .ok (.getfield 91, 3) := by decide +kernel
theorem dX10_end_12 : decode cX10_end 12 = .ok (.if_icmp .le 5, 3) := by decide +kernel
theorem dX10_end_15 : decode cX10_end 15 = .ok (.iconst 0, 1) := by decide +kernel
theorem dX10_end_16 : decode cX10_end 16 = .ok (.ireturn, 1) := by decide +kernel
theorem dX10_end_17 : decode cX10_end 17 = .ok (.aload_n 0, 1) := by decide +kernel
theorem dX10_end_18 : decode cX10_end 18 = .ok (.getfield 20, 3) := by decide +kernel
theorem dX10_end_21 : decode cX10_end 21 = .ok (.iload_n 1, 1) := by decide +kernel
theorem dX10_end_22 : decode cX10_end 22 = .ok (.putfield 91, 3) := by decide +kernel
theorem dX10_end_25 : decode cX10_end 25 = .ok (.iconst 1, 1) := by decide +kernel
theorem dX10_end_26 : decode cX10_end 26 = .ok (.ireturn, 1) := by decide +kernel
def VX10_end_0 (d : Nat) (Q : Out → MS → Prop) (x0 : Nat) (x1 : Int) (S : MS) : Prop :=
  R32 x1 ∧ ((x1 < 0) → B01 0 ∧ Q (.inl (some (vI 0))) S) ∧ (¬ (x1 < 0) → S.K x0 = 10 ∧ ∃ b1, S.R x0 1 = some b1 ∧ (S.K b1 = 8 ∧ ((R32 x1 ∧ R32 (S.I b1 1)) ∧ ((x1 ≤ (S.I b1 1)) → S.K x0 = 10 ∧ ∃ b2, S.R x0 1 = some b2 ∧ (S.K b2 = 8 ∧ (B01 1 ∧ Q (.inl (some (vI 1))) (S.setI b2 1 x1)))) ∧ (¬ (x1 ≤ (S.I b1 1)) → B01 0 ∧ Q (.inl (some (vI 0))) S))))
theorem JX10_end_0 {d : Nat} {S0 : MS} {Q : Out → MS → Prop} (x0 : Nat) (x1 : Int) (S : MS) (h : VX10_end_0 d Q x0 x1 S) : Jw FinM RX10 cX10_end 2 (some .boolean) [] yX10_end (d + 1) S0 S 0 [(0, vA x0), (1, vI x1)] [] Q :=
  j_iload_n 1 dX10_end_0 rfl (j_if_lt (tgt := 15) dX10_end_1 (by decide) h (fun h => j_iconst dX10_end_15 (j_zret rfl dX10_end_16 h)) (fun h => j_iload_n 1 dX10_end_4 rfl (j_aload_n 0 dX10_end_5 rfl (j_getR 10 1 f_RX10_20 dX10_end_6 h (fun b1 h => j_getI 8 1 f_RX10_91 dX10_end_9 h (fun h => j_icmp_le (tgt := 17) dX10_end_12 (by decide) h (fun h => j_aload_n 0 dX10_end_17 rfl (j_getR 10 1 f_RX10_20 dX10_end_18 h (fun b2 h => j_iload_n 1 dX10_end_21 rfl (j_putI 8 1 f_RX10_91 dX10_end_22 h (fun h => j_iconst dX10_end_25 (j_zret rfl dX10_end_26 h)))))) (fun h => j_iconst dX10_end_15 (j_zret rfl dX10_end_16 h))))))))
theorem MX10_end {d : Nat} {x0 : Nat} {x1 : Int} {S : MS} {Q : Out → MS → Prop} (h : VX10_end_0 d Q x0 x1 S) : Mw hX10_end yX10_end (d + 1) [vA x0, vI x1] S Q := Mw.ofJ (by decide) (Nat.le_of_ble_eq_true rfl) (JX10_end_0 _ _ S h)
theorem dX10_shed_0 : decode cX10_shed 0 = .ok (.aload_n 0, 1) := by decide +kernel
theorem dX10_shed_1 : decode cX10_shed 1 = .ok (.getfield 10, 3) := by decide +kernel
theorem dX10_shed_4 : decode cX10_shed 4 = .ok (.getfield 100, 3) := by decide +kernel
theorem dX10_shed_7 : decode cX10_shed 7 = .ok (.astore_n 1, 1) := by decide +kernel
theorem dX10_shed_8 : decode cX10_shed 8 = .ok (.aload_n 1, 1) := by decide +kernel
theorem dX10_shed_9 : decode cX10_shed 9 = .ok (.aload_n 0, 1) := by decide +kernel
theorem dX10_shed_10 : decode cX10_shed 10 = .ok (.getfield 24, 3) := by decide +kernel
theorem dX10_shed_13 : decode cX10_shed 13 = .ok (.invokevirtual 103, 3) := by decide +kernel
theorem dX10_shed_16 : decode cX10_shed 16 = .ok (.aload_n 0, 1) := by decide +kernel
theorem dX10_shed_17 : decode cX10_shed 17 = .ok (.aload_n 0, 1) := by decide +kernel
theorem dX10_shed_18 : decode cX10_shed 18 = .ok (.getfield 10, 3) := by decide +kernel
theorem dX10_shed_21 : decode cX10_shed 21 = .ok (.aload_n 0, 1) := by decide +kernel
theorem dX10_shed_22 : decode cX10_shed 22 = .ok (.getfield 20, 3) := by decide +kernel
theorem dX10_shed_25 : decode cX10_shed 25 = .ok (.invokevirtual 107, 3) := by decide +kernel
theorem dX10_shed_28 : decode cX10_shed 28 = .ok (.invokevirtual 111, 3) := by decide +kernel
theorem dX10_shed_31 : decode cX10_shed 31 = .ok (.putfield 87, 3) := by decide +kernel
theorem dX10_shed_34 : decode cX10_shed 34 = .ok (.aload_n 0, 1) := by decide +kernel
theorem dX10_shed_35 : decode cX10_shed 35 = .ok (.getfield 87, 3) := by decide +kernel
theorem dX10_shed_38 : decode cX10_shed 38 = .ok (.iconst (-1), 1) := by decide +kernel
theorem dX10_shed_39 : decode cX10_shed 39 = .ok (.if_icmp .eq 13, 3) := by decide +kernel
theorem dX10_shed_42 : decode cX10_shed 42 = .ok (.new 115, 3) := by decide +kernel
theorem dX10_shed_45 : decode cX10_shed 45 = .ok (.dup, 1) := by decide +kernel
theorem dX10_shed_46 : decode cX10_shed 46 = .ok (.ldc 117, 2) := by decide +kernel
theorem dX10_shed_48 : decode cX10_shed 48 = .ok (.invokespecial 119, 3) := by decide +kernel
theorem dX10_shed_51 : decode cX10_shed 51 = .ok (.athrow, 1) := by decide +kernel
theorem dX10_shed_52 : decode cX10_shed 52 = .ok (.aload_n 0, 1) := by decide +kernel
theorem dX10_shed_53 : decode cX10_shed 53 = .ok (.getfield 24, 3) := by decide +kernel
theorem dX10_shed_56 : decode cX10_shed 56 = .ok (.getfield 122, 3) := by decide +kernel
theorem dX10_shed_59 : decode cX10_shed 59 = .ok (.bipush 8, 2) := by decide +kernel
theorem dX10_shed_61 : decode cX10_shed 61 = .ok (.if_icmp .lt 13, 3) := by decide +kernel
theorem dX10_shed_64 : decode cX10_shed 64 = .ok (.new 125, 3) := by decide +kernel
theorem dX10_shed_67 : decode cX10_shed 67 = .ok (.dup, 1) := by decide +kernel
theorem dX10_shed_68 : decode cX10_shed 68 = .ok (.ldc 127, 2) := by decide +kernel
theorem dX10_shed_70 : decode cX10_shed 70 = .ok (.invokespecial 129, 3) := by decide +kernel
theorem dX10_shed_73 : decode cX10_shed 73 = .ok (.athrow, 1) := by decide +kernel
theorem dX10_shed_74 : decode cX10_shed 74 = .ok (.aload_n 1, 1) := by decide +kernel
theorem dX10_shed_75 : decode cX10_shed 75 = .ok (.dup, 1) := by decide +kernel
theorem dX10_shed_76 : decode cX10_shed 76 = .ok (.getfield 122, 3) := by decide +kernel
theorem dX10_shed_79 : decode cX10_shed 79 = .ok (.iconst 1, 1) := by decide +kernel
theorem dX10_shed_80 : decode cX10_shed 80 = .ok (.iadd, 1) := by decide +kernel
theorem dX10_shed_81 : decode cX10_shed 81 = .ok (.putfield 122, 3) := by decide +kernel
theorem dX10_shed_84 : decode cX10_shed 84 = .ok (.aload_n 0, 1) := by decide +kernel
theorem dX10_shed_85 : decode cX10_shed 85 = .ok (.getfield 24, 3) := by decide +kernel
theorem dX10_shed_88 : decode cX10_shed 88 = .ok (.aload_n 1, 1) := by decide +kernel
theorem dX10_shed_89 : decode cX10_shed 89 = .ok (.invokevirtual 103, 3) := by decide +kernel
theorem dX10_shed_92 : decode cX10_shed 92 = .ok (.aload_n 0, 1) := by decide +kernel
theorem dX10_shed_93 : decode cX10_shed 93 = .ok (.iconst 0, 1) := by decide +kernel
theorem dX10_shed_94 : decode cX10_shed 94 = .ok (.putfield 80, 3) := by decide +kernel
theorem dX10_shed_97 : decode cX10_shed 97 = .ok (.aload_n 0, 1) := by decide +kernel
theorem dX10_shed_98 : decode cX10_shed 98 = .ok (.getfield 24, 3) := by decide +kernel
theorem dX10_shed_101 : decode cX10_shed 101 = .ok (.getfield 122, 3) := by decide +kernel
theorem dX10_shed_104 : decode cX10_shed 104 = .ok (.ireturn, 1) := by decide +kernel
def VX10_shed_0 (d : Nat) (Q : Out → MS → Prop) (x0 : Nat) (S : MS) : Prop :=
  S.K x0 = 10 ∧ ∃ b1, S.R x0 0 = some b1 ∧ (S.K b1 = 4 ∧ ∃ b2, S.R b1 1 = some b2 ∧ (S.K x0 = 10 ∧ ∃ b3, S.R x0 2 = some b3 ∧ (S.K b2 = 7 ∧ Mw hX7_takeOver yX7_takeOver d [vA b2, vA b3] S (oV (fun S4 => S4.K x0 = 10 ∧ ∃ b5, S4.R x0 0 = some b5 ∧ (S4.K x0 = 10 ∧ ∃ b6, S4.R x0 1 = some b6 ∧ (S4.K b6 = 8 ∧ Mw hX8_useUp yX8_useUp d [vA b6] S4 (oI (fun r7 S7 => S7.K b5 = 4 ∧ Mw hX4_read yX4_read d [vA b5, vI r7] S7 (oI (fun r8 S8 => S8.K x0 = 10 ∧ ((S8.setI x0 14 r8).K x0 = 10 ∧ ((R32 ((S8.setI x0 14 r8).I x0 14) ∧ R32 ((-1) : Int)) ∧ ((((S8.setI x0 14 r8).I x0 14) = ((-1) : Int)) → (S8.setI x0 14 r8).K x0 = 10 ∧ ∃ b9, (S8.setI x0 14 r8).R x0 2 = some b9 ∧ ((S8.setI x0 14 r8).K b9 = 7 ∧ ((R32 ((S8.setI x0 14 r8).I b9 10) ∧ R32 (8 : Int)) ∧ ((((S8.setI x0 14 r8).I b9 10) < (8 : Int)) → (S8.setI x0 14 r8).K b2 = 7 ∧ ((S8.setI x0 14 r8).K b2 = 7 ∧ (((S8.setI x0 14 r8).setI b2 10 (((S8.setI x0 14 r8).I b2 10) + 1)).K x0 = 10 ∧ ∃ b10, ((S8.setI x0 14 r8).setI b2 10 (((S8.setI x0 14 r8).I b2 10) + 1)).R x0 2 = some b10 ∧ (((S8.setI x0 14 r8).setI b2 10 (((S8.setI x0 14 r8).I b2 10) + 1)).K b10 = 7 ∧ Mw hX7_takeOver yX7_takeOver d [vA b10, vA b2] ((S8.setI x0 14 r8).setI b2 10 (((S8.setI x0 14 r8).I b2 10) + 1)) (oV (fun S11 => (S11.K x0 = 10 ∧ B01 0) ∧ ((S11.setI x0 12 0).K x0 = 10 ∧ ∃ b12, (S11.setI x0 12 0).R x0 2 = some b12 ∧ ((S11.setI x0 12 0).K b12 = 7 ∧ (Q (.inl (some (vI ((S11.setI x0 12 0).I b12 10)))) (S11.setI x0 12 0)))))))))) ∧ (¬ (((S8.setI x0 14 r8).I b9 10) < (8 : Int)) → 5 ≤ d ∧ Q (.inr "java/lang/UnsupportedOperationException") ((S8.setI x0 14 r8).junk 6))))) ∧ (¬ (((S8.setI x0 14 r8).I x0 14) = ((-1) : Int)) → 5 ≤ d ∧ Q (.inr "java/lang/IllegalArgumentException") ((S8.setI x0 14 r8).junk 6)))))))))))))))
theorem JX10_shed_0 {d : Nat} {S0 : MS} {Q : Out → MS → Prop} (x0 : Nat) (S : MS) (h : VX10_shed_0 d Q x0 S) : Jw FinM RX10 cX10_shed 2 (some .int) [] yX10_shed (d + 1) S0 S 0 [(0, vA x0)] [] Q :=
  j_aload_n 0 dX10_shed_0 rfl (j_getR 10 0 f_RX10_10 dX10_shed_1 h (fun b1 h => j_getR 4 1 f_RX10_100 dX10_shed_4 h (fun b2 h => j_astore_n (lv2 := [(1, vA b2), (0, vA x0)]) dX10_shed_7 (by decide) rfl (j_aload_n 0 dX10_shed_8 rfl (j_aload_n 1 dX10_shed_9 rfl (j_getR 10 2 f_RX10_24 dX10_shed_10 h (fun b3 h => j_callV (rest := []) 7 [vA b3] k_RX10_103 ⟨w_3_214, w_3_215⟩ ⟨_, _, rfl⟩ (by decide) rfl rfl (Nat.le_of_ble_eq_true rfl) dX10_shed_13 h (kV (fun S4 h => j_aload_n 1 dX10_shed_16 rfl (j_aload_n 1 dX10_shed_17 rfl (j_getR 10 0 f_RX10_10 dX10_shed_18 h (fun b5 h => j_aload_n 1 dX10_shed_21 rfl (j_getR 10 1 f_RX10_20 dX10_shed_22 h (fun b6 h => j_callV (rest := [vA b5, vA x0]) 8 [] k_RX10_107 ⟨w_4_36, w_4_37⟩ ⟨_, _, rfl⟩ (by decide) rfl rfl (Nat.le_of_ble_eq_true rfl) dX10_shed_25 h (kI (fun r7 S7 h => j_callV (rest := [vA x0]) 4 [vI r7] k_RX10_111 ⟨w_4_40, w_4_41⟩ ⟨_, _, rfl⟩ (by decide) rfl rfl (Nat.le_of_ble_eq_true rfl) dX10_shed_28 h (kI (fun r8 S8 h => j_putI 10 14 f_RX10_87 dX10_shed_31 h (fun h => j_aload_n 1 dX10_shed_34 rfl (j_getI 10 14 f_RX10_87 dX10_shed_35 h (fun h => j_iconst dX10_shed_38 (j_icmp_eq (tgt := 52) dX10_shed_39 (by decide) h (fun h => j_aload_n 1 dX10_shed_52 rfl (j_getR 10 2 f_RX10_24 dX10_shed_53 h (fun b9 h => j_getI 7 10 f_RX10_122 dX10_shed_56 h (fun h => j_bipush dX10_shed_59 rfl (j_icmp_lt (tgt := 74) dX10_shed_61 (by decide) h (fun h => j_aload_n 0 dX10_shed_74 rfl (j_dup rfl dX10_shed_75 (j_getI 7 10 f_RX10_122 dX10_shed_76 h (fun h => j_iconst dX10_shed_79 (j_iadd dX10_shed_80 (j_putI 7 10 f_RX10_122 dX10_shed_81 h (fun h => j_aload_n 1 dX10_shed_84 rfl (j_getR 10 2 f_RX10_24 dX10_shed_85 h (fun b10 h => j_aload_n 0 dX10_shed_88 rfl (j_callV (rest := []) 7 [vA b2] k_RX10_103 ⟨w_3_214, w_3_215⟩ ⟨_, _, rfl⟩ (by decide) rfl rfl (Nat.le_of_ble_eq_true rfl) dX10_shed_89 h (kV (fun S11 h => j_aload_n 1 dX10_shed_92 rfl (j_iconst dX10_shed_93 (j_putZ 10 12 f_RX10_80 dX10_shed_94 h (fun h => j_aload_n 1 dX10_shed_97 rfl (j_getR 10 2 f_RX10_24 dX10_shed_98 h (fun b12 h => j_getI 7 10 f_RX10_122 dX10_shed_101 h (fun h => j_iret rfl dX10_shed_104 h)))))))) (fun _ _ h => h.elim))))))))))) (fun h => j_throw t_RX10_125_129 (List.mem_of_getElem? (i := 1) rfl) dX10_shed_64 dX10_shed_67 dX10_shed_68 dX10_shed_70 dX10_shed_73 (Nat.le_of_ble_eq_true rfl) rfl h)))))) (fun h => j_throw t_RX10_115_119 (List.mem_of_getElem? (i := 0) rfl) dX10_shed_42 dX10_shed_45 dX10_shed_46 dX10_shed_48 dX10_shed_51 (Nat.le_of_ble_eq_true rfl) rfl h))))))) (fun _ _ h => h.elim))) (fun _ _ h => h.elim)))))))) (fun _ _ h => h.elim))))))))
theorem MX10_shed {d : Nat} {x0 : Nat} {S : MS} {Q : Out → MS → Prop} (h : VX10_shed_0 d Q x0 S) : Mw hX10_shed yX10_shed (d + 1) [vA x0] S Q := Mw.ofJ (by decide) (Nat.le_of_ble_eq_true rfl) (JX10_shed_0 _ S h)
theorem dX10_fault_0 : decode cX10_fault 0 = .ok (.aload_n 0, 1) := by decide +kernel
theorem dX10_fault_1 : decode cX10_fault 1 = .ok (.getfield 87, 3) := by decide +kernel
theorem dX10_fault_4 : decode cX10_fault 4 = .ok (.ireturn, 1) := by decide +kernel
def VX10_fault_0 (d : Nat) (Q : Out → MS → Prop) (x0 : Nat) (S : MS) : Prop :=
  S.K x0 = 10 ∧ (Q (.inl (some (vI (S.I x0 14)))) S)
theorem JX10_fault_0 {d : Nat} {S0 : MS} {Q : Out → MS → Prop} (x0 : Nat) (S : MS) (h : VX10_fault_0 d Q x0 S) : Jw FinM RX10 cX10_fault 1 (some .int) [] yX10_fault (d + 1) S0 S 0 [(0, vA x0)] [] Q :=
  j_aload_n 0 dX10_fault_0 rfl (j_getI 10 14 f_RX10_87 dX10_fault_1 h (fun h => j_iret rfl dX10_fault_4 h))
theorem MX10_fault {d : Nat} {x0 : Nat} {S : MS} {Q : Out → MS → Prop} (h : VX10_fault_0 d Q x0 S) : Mw hX10_fault yX10_fault (d + 1) [vA x0] S Q := Mw.ofJ (by decide) (Nat.le_of_ble_eq_true rfl) (JX10_fault_0 _ S h)
theorem dX10_things_0 : decode cX10_things 0 = .ok (.iload_n 1, 1) := by decide +kernel
theorem dX10_things_1 : decode cX10_things 1 = .ok (.iconst 3, 1) := by decide +kernel
theorem dX10_things_2 : decode cX10_things 2 = .ok (.if_icmp .lt 9, 3) := by decide +kernel
theorem dX10_things_5 : decode cX10_things 5 = .ok (.iload_n 1, 1) := by decide +kernel
theorem dX10_things_6 : decode cX10_things 6 = .ok (.bipush 7, 2) := by decide +kernel
theorem dX10_things_8 : decode cX10_things 8 = .ok (.if_icmp .le 13, 3) := by decide +kernel
theorem dX10_things_11 : decode cX10_things 11 = .ok (.new 115, 3) := by decide +kernel
theorem dX10_things_14 : decode cX10_things 14 = .ok (.dup, 1) := by decide +kernel
theorem dX10_things_15 : decode cX10_things 15 = .ok (.ldc 130, 2) := by decide +kernel
theorem dX10_things_17 : decode cX10_things 17 = .ok (.invokespecial 119, 3) := by decide +kernel
theorem dX10_things_20 : decode cX10_things 20 = .ok (.athrow, 1) := by decide +kernel
theorem dX10_things_21 : decode cX10_things 21 = .ok (.aload_n 0, 1) := by decide +kernel
theorem dX10_things_22 : decode cX10_things 22 = .ok (.getfield 24, 3) := by decide +kernel
theorem dX10_things_25 : decode cX10_things 25 = .ok (.getfield 132, 3) := by decide +kernel
theorem dX10_things_28 : decode cX10_things 28 = .ok (.ifCond .le 13, 3) := by decide +kernel
theorem dX10_things_31 : decode cX10_things 31 = .ok (.new 135, 3) := by decide +kernel
theorem dX10_things_34 : decode cX10_things 34 = .ok (.dup, 1) := by decide +kernel
theorem dX10_things_35 : decode cX10_things 35 = .ok (.ldc 137, 2) := by decide +kernel
theorem dX10_things_37 : decode cX10_things 37 = .ok (.invokespecial 139, 3) := by decide +kernel
theorem dX10_things_40 : decode cX10_things 40 = .ok (.athrow, 1) := by decide +kernel
theorem dX10_things_41 : decode cX10_things 41 = .ok (.aload_n 0, 1) := by decide +kernel
theorem dX10_things_42 : decode cX10_things 42 = .ok (.getfield 24, 3) := by decide +kernel
theorem dX10_things_45 : decode cX10_things 45 = .ok (.iload_n 1, 1) := by decide +kernel
theorem dX10_things_46 : decode cX10_things 46 = .ok (.invokevirtual 140, 3) := by decide +kernel
theorem dX10_things_49 : decode cX10_things 49 = .ok (.aload_n 0, 1) := by decide +kernel
theorem dX10_things_50 : decode cX10_things 50 = .ok (.iconst 0, 1) := by decide +kernel
theorem dX10_things_51 : decode cX10_things 51 = .ok (.putfield 80, 3) := by decide +kernel
theorem dX10_things_54 : decode cX10_things 54 = .ok (.return_, 1) := by decide +kernel
def VX10_things_11 (d : Nat) (Q : Out → MS → Prop) (S : MS) : Prop :=
  5 ≤ d ∧ Q (.inr "java/lang/IllegalArgumentException") (S.junk 6)
theorem JX10_things_11 {d : Nat} {S0 : MS} {Q : Out → MS → Prop} (S : MS) (h : VX10_things_11 d Q S) : Jw FinM RX10 cX10_things 2 none [] yX10_things (d + 1) S0 S 11 [] [] Q :=
  j_throw t_RX10_115_119 (List.mem_of_getElem? (i := 2) rfl) dX10_things_11 dX10_things_14 dX10_things_15 dX10_things_17 dX10_things_20 (Nat.le_of_ble_eq_true rfl) rfl h
def VX10_things_0 (d : Nat) (Q : Out → MS → Prop) (x0 : Nat) (x1 : Int) (S : MS) : Prop :=
  (R32 x1 ∧ R32 (3 : Int)) ∧ ((x1 < (3 : Int)) → VX10_things_11 d Q S) ∧ (¬ (x1 < (3 : Int)) → (R32 x1 ∧ R32 (7 : Int)) ∧ ((x1 ≤ (7 : Int)) → S.K x0 = 10 ∧ ∃ b1, S.R x0 2 = some b1 ∧ (S.K b1 = 7 ∧ (R32 (S.I b1 9) ∧ (((S.I b1 9) ≤ 0) → S.K x0 = 10 ∧ ∃ b2, S.R x0 2 = some b2 ∧ (S.K b2 = 7 ∧ Mw hX7_setThings yX7_setThings d [vA b2, vI x1] S (oV (fun S3 => (S3.K x0 = 10 ∧ B01 0) ∧ (Q (.inl none) (S3.setI x0 12 0)))))) ∧ (¬ ((S.I b1 9) ≤ 0) → 5 ≤ d ∧ Q (.inr "java/lang/IllegalStateException") (S.junk 6))))) ∧ (¬ (x1 ≤ (7 : Int)) → VX10_things_11 d Q S))
theorem JX10_things_0 {d : Nat} {S0 : MS} {Q : Out → MS → Prop} (x0 : Nat) (x1 : Int) (S : MS) (h : VX10_things_0 d Q x0 x1 S) : Jw FinM RX10 cX10_things 2 none [] yX10_things (d + 1) S0 S 0 [(0, vA x0), (1, vI x1)] [] Q :=
  j_iload_n 1 dX10_things_0 rfl (j_iconst dX10_things_1 (j_icmp_lt (tgt := 11) dX10_things_2 (by decide) h (fun h => j_sub [] rfl (JX10_things_11 _ h)) (fun h => j_iload_n 1 dX10_things_5 rfl (j_bipush dX10_things_6 rfl (j_icmp_le (tgt := 21) dX10_things_8 (by decide) h (fun h => j_aload_n 0 dX10_things_21 rfl (j_getR 10 2 f_RX10_24 dX10_things_22 h (fun b1 h => j_getI 7 9 f_RX10_132 dX10_things_25 h (fun h => j_if_le (tgt := 41) dX10_things_28 (by decide) h (fun h => j_aload_n 0 dX10_things_41 rfl (j_getR 10 2 f_RX10_24 dX10_things_42 h (fun b2 h => j_iload_n 1 dX10_things_45 rfl (j_callV (rest := []) 7 [vI x1] k_RX10_140 ⟨w_4_128, w_4_129⟩ ⟨_, _, rfl⟩ (by decide) rfl rfl (Nat.le_of_ble_eq_true rfl) dX10_things_46 h (kV (fun S3 h => j_aload_n 0 dX10_things_49 rfl (j_iconst dX10_things_50 (j_putZ 10 12 f_RX10_80 dX10_things_51 h (fun h => j_vret rfl dX10_things_54 h))))) (fun _ _ h => h.elim))))) (fun h => j_throw t_RX10_135_139 (List.mem_of_getElem? (i := 3) rfl) dX10_things_31 dX10_things_34 dX10_things_35 dX10_things_37 dX10_things_40 (Nat.le_of_ble_eq_true rfl) rfl h))))) (fun h => j_sub [] rfl (JX10_things_11 _ h)))))))
theorem MX10_things {d : Nat} {x0 : Nat} {x1 : Int} {S : MS} {Q : Out → MS → Prop} (h : VX10_things_0 d Q x0 x1 S) : Mw hX10_things yX10_things (d + 1) [vA x0, vI x1] S Q := Mw.ofJ (by decide) (Nat.le_of_ble_eq_true rfl) (JX10_things_0 _ _ S h)
theorem dX10_scale_0 : decode cX10_scale 0 = .ok (.iload_n 1, 1) := by decide +kernel
theorem dX10_scale_1 : decode cX10_scale 1 = .ok (.iconst 2, 1) := by decide +kernel
theorem dX10_scale_2 : decode cX10_scale 2 = .ok (.invokestatic 143, 3) := by decide +kernel
theorem dX10_scale_5 : decode cX10_scale 5 = .ok (.ifCond .eq 20, 3) := by decide +kernel
theorem dX10_scale_8 : decode cX10_scale 8 = .ok (.iload_n 2, 1) := by decide +kernel
theorem dX10_scale_9 : decode cX10_scale 9 = .ok (.bipush 99, 2) := by decide +kernel
theorem dX10_scale_11 : decode cX10_scale 11 = .ok (.invokestatic 143, 3) := by decide +kernel
theorem dX10_scale_14 : decode cX10_scale 14 = .ok (.ifCond .eq 11, 3) := by decide +kernel
theorem dX10_scale_17 : decode cX10_scale 17 = .ok (.iload_n 3, 1) := by decide +kernel
theorem dX10_scale_18 : decode cX10_scale 18 = .ok (.iconst 3, 1) := by decide +kernel
theorem dX10_scale_19 : decode cX10_scale 19 = .ok (.invokestatic 143, 3) := by decide +kernel
theorem dX10_scale_22 : decode cX10_scale 22 = .ok (.ifCond .ne 13, 3) := by decide +kernel
theorem dX10_scale_25 : decode cX10_scale 25 = .ok (.new 115, 3) := by decide +kernel
theorem dX10_scale_28 : decode cX10_scale 28 = .ok (.dup, 1) := by decide +kernel
theorem dX10_scale_29 : decode cX10_scale 29 = .ok (.ldc 147, 2) := by decide +kernel
theorem dX10_scale_31 : decode cX10_scale 31 = .ok (.invokespecial 119, 3) := by decide +kernel
theorem dX10_scale_34 : decode cX10_scale 34 = .ok (.athrow, 1) := by decide +kernel
theorem dX10_scale_35 : decode cX10_scale 35 = .ok (.aload_n 0, 1) := by decide +kernel
theorem dX10_scale_36 : decode cX10_scale 36 = .ok (.getfield 24, 3) := by decide +kernel
theorem dX10_scale_39 : decode cX10_scale 39 = .ok (.getfield 149, 3) := by decide +kernel
theorem dX10_scale_42 : decode cX10_scale 42 = .ok (.iconst 4, 1) := by decide +kernel
theorem dX10_scale_43 : decode cX10_scale 43 = .ok (.if_icmp .lt 13, 3) := by decide +kernel
theorem dX10_scale_46 : decode cX10_scale 46 = .ok (.new 125, 3) := by decide +kernel
theorem dX10_scale_49 : decode cX10_scale 49 = .ok (.dup, 1) := by decide +kernel
theorem dX10_scale_50 : decode cX10_scale 50 = .ok (.ldc 152, 2) := by decide +kernel
theorem dX10_scale_52 : decode cX10_scale 52 = .ok (.invokespecial 129, 3) := by decide +kernel
theorem dX10_scale_55 : decode cX10_scale 55 = .ok (.athrow, 1) := by decide +kernel
theorem dX10_scale_56 : decode cX10_scale 56 = .ok (.aload_n 0, 1) := by decide +kernel
theorem dX10_scale_57 : decode cX10_scale 57 = .ok (.getfield 24, 3) := by decide +kernel
theorem dX10_scale_60 : decode cX10_scale 60 = .ok (.iload_n 1, 1) := by decide +kernel
theorem dX10_scale_61 : decode cX10_scale 61 = .ok (.iload_n 2, 1) := by decide +kernel
theorem dX10_scale_62 : decode cX10_scale 62 = .ok (.iload_n 3, 1) := by decide +kernel
theorem dX10_scale_63 : decode cX10_scale 63 = .ok (.invokevirtual 154, 3) := by decide +kernel
theorem dX10_scale_66 : decode cX10_scale 66 = .ok (.ireturn, 1) := by decide +kernel
def VX10_scale_25 (d : Nat) (Q : Out → MS → Prop) (S : MS) : Prop :=
  5 ≤ d ∧ Q (.inr "java/lang/IllegalArgumentException") (S.junk 6)
theorem JX10_scale_25 {d : Nat} {S0 : MS} {Q : Out → MS → Prop} (S : MS) (h : VX10_scale_25 d Q S) : Jw FinM RX10 cX10_scale 4 (some .int) [] yX10_scale (d + 1) S0 S 25 [] [] Q :=
  j_throw t_RX10_115_119 (List.mem_of_getElem? (i := 4) rfl) dX10_scale_25 dX10_scale_28 dX10_scale_29 dX10_scale_31 dX10_scale_34 (Nat.le_of_ble_eq_true rfl) rfl h
def VX10_scale_0 (d : Nat) (Q : Out → MS → Prop) (x0 : Nat) (x1 : Int) (x2 : Int) (x3 : Int) (S : MS) : Prop :=
  Mw hX10_within yX10_within d [vI x1, vI 2] S (oI (fun r1 S1 => R32 r1 ∧ ((r1 = 0) → VX10_scale_25 d Q S1) ∧ (¬ (r1 = 0) → Mw hX10_within yX10_within d [vI x2, vI 99] S1 (oI (fun r2 S2 => R32 r2 ∧ ((r2 = 0) → VX10_scale_25 d Q S2) ∧ (¬ (r2 = 0) → Mw hX10_within yX10_within d [vI x3, vI 3] S2 (oI (fun r3 S3 => R32 r3 ∧ (¬ (r3 = 0) → S3.K x0 = 10 ∧ ∃ b4, S3.R x0 2 = some b4 ∧ (S3.K b4 = 7 ∧ ((R32 (S3.I b4 8) ∧ R32 (4 : Int)) ∧ (((S3.I b4 8) < (4 : Int)) → S3.K x0 = 10 ∧ ∃ b5, S3.R x0 2 = some b5 ∧ (S3.K b5 = 7 ∧ Mw hX7_addScale yX7_addScale d [vA b5, vI x1, vI x2, vI x3] S3 (oI (fun r6 S6 => Q (.inl (some (vI r6))) S6)))) ∧ (¬ ((S3.I b4 8) < (4 : Int)) → 5 ≤ d ∧ Q (.inr "java/lang/UnsupportedOperationException") (S3.junk 6))))) ∧ ((r3 = 0) → VX10_scale_25 d Q S3)))))))))
theorem JX10_scale_0 {d : Nat} {S0 : MS} {Q : Out → MS → Prop} (x0 : Nat) (x1 : Int) (x2 : Int) (x3 : Int) (S : MS) (h : VX10_scale_0 d Q x0 x1 x2 x3 S) : Jw FinM RX10 cX10_scale 4 (some .int) [] yX10_scale (d + 1) S0 S 0 [(0, vA x0), (1, vI x1), (2, vI x2), (3, vI x3)] [] Q :=
  j_iload_n 1 dX10_scale_0 rfl (j_iconst dX10_scale_1 (j_callS (rest := []) [vI x1, vI 2] k_RX10_143 w_5_52 rfl rfl (Nat.le_of_ble_eq_true rfl) dX10_scale_2 h (kI (fun r1 S1 h => j_if_eq (tgt := 25) dX10_scale_5 (by decide) h (fun h => j_sub [] rfl (JX10_scale_25 _ h)) (fun h => j_iload_n 2 dX10_scale_8 rfl (j_bipush dX10_scale_9 rfl (j_callS (rest := []) [vI x2, vI 99] k_RX10_143 w_5_52 rfl rfl (Nat.le_of_ble_eq_true rfl) dX10_scale_11 h (kI (fun r2 S2 h => j_if_eq (tgt := 25) dX10_scale_14 (by decide) h (fun h => j_sub [] rfl (JX10_scale_25 _ h)) (fun h => j_iload_n 3 dX10_scale_17 rfl (j_iconst dX10_scale_18 (j_callS (rest := []) [vI x3, vI 3] k_RX10_143 w_5_52 rfl rfl (Nat.le_of_ble_eq_true rfl) dX10_scale_19 h (kI (fun r3 S3 h => j_if_ne (tgt := 35) dX10_scale_22 (by decide) h (fun h => j_aload_n 0 dX10_scale_35 rfl (j_getR 10 2 f_RX10_24 dX10_scale_36 h (fun b4 h => j_getI 7 8 f_RX10_149 dX10_scale_39 h (fun h => j_iconst dX10_scale_42 (j_icmp_lt (tgt := 56) dX10_scale_43 (by decide) h (fun h => j_aload_n 0 dX10_scale_56 rfl (j_getR 10 2 f_RX10_24 dX10_scale_57 h (fun b5 h => j_iload_n 1 dX10_scale_60 rfl (j_iload_n 2 dX10_scale_61 rfl (j_iload_n 3 dX10_scale_62 rfl (j_callV (rest := []) 7 [vI x1, vI x2, vI x3] k_RX10_154 ⟨w_4_144, w_4_145⟩ ⟨_, _, rfl⟩ (by decide) rfl rfl (Nat.le_of_ble_eq_true rfl) dX10_scale_63 h (kI (fun r6 S6 h => j_iret rfl dX10_scale_66 h)) (fun _ _ h => h.elim))))))) (fun h => j_throw t_RX10_125_129 (List.mem_of_getElem? (i := 5) rfl) dX10_scale_46 dX10_scale_49 dX10_scale_50 dX10_scale_52 dX10_scale_55 (Nat.le_of_ble_eq_true rfl) rfl h)))))) (fun h => j_sub [] rfl (JX10_scale_25 _ h)))) (fun _ _ h => h.elim)))))) (fun _ _ h => h.elim)))))) (fun _ _ h => h.elim)))
theorem MX10_scale {d : Nat} {x0 : Nat} {x1 : Int} {x2 : Int} {x3 : Int} {S : MS} {Q : Out → MS → Prop} (h : VX10_scale_0 d Q x0 x1 x2 x3 S) : Mw hX10_scale yX10_scale (d + 1) [vA x0, vI x1, vI x2, vI x3] S Q := Mw.ofJ (by decide) (Nat.le_of_ble_eq_true rfl) (JX10_scale_0 _ _ _ _ S h)
theorem dX10_weight_0 : decode cX10_weight 0 = .ok (.aload_n 0, 1) := by decide +kernel
theorem dX10_weight_1 : decode cX10_weight 1 = .ok (.iload_n 1, 1) := by decide +kernel
theorem dX10_weight_2 : decode cX10_weight 2 = .ok (.invokevirtual 158, 3) := by decide +kernel
theorem dX10_weight_5 : decode cX10_weight 5 = .ok (.iload_n 2, 1) := by decide +kernel
theorem dX10_weight_6 : decode cX10_weight 6 = .ok (.sipush 999, 3) := by decide +kernel
theorem dX10_weight_9 : decode cX10_weight 9 = .ok (.invokestatic 143, 3) := by decide +kernel
theorem dX10_weight_12 : decode cX10_weight 12 = .ok (.ifCond .ne 13, 3) := by decide +kernel
theorem dX10_weight_15 : decode cX10_weight 15 = .ok (.new 115, 3) := by decide +kernel
theorem dX10_weight_18 : decode cX10_weight 18 = .ok (.dup, 1) := by decide +kernel
theorem dX10_weight_19 : decode cX10_weight 19 = .ok (.ldc 161, 2) := by decide +kernel
theorem dX10_weight_21 : decode cX10_weight 21 = .ok (.invokespecial 119, 3) := by decide +kernel
theorem dX10_weight_24 : decode cX10_weight 24 = .ok (.athrow, 1) := by decide +kernel
theorem dX10_weight_25 : decode cX10_weight 25 = .ok (.aload_n 0, 1) := by decide +kernel
theorem dX10_weight_26 : decode cX10_weight 26 = .ok (.getfield 24, 3) := by decide +kernel
theorem dX10_weight_29 : decode cX10_weight 29 = .ok (.getfield 163, 3) := by decide +kernel
theorem dX10_weight_32 : decode cX10_weight 32 = .ok (.iload_n 1, 1) := by decide +kernel
theorem dX10_weight_33 : decode cX10_weight 33 = .ok (.iaload, 1) := by decide +kernel
theorem dX10_weight_34 : decode cX10_weight 34 = .ok (.istore_n 3, 1) := by decide +kernel
theorem dX10_weight_35 : decode cX10_weight 35 = .ok (.aload_n 0, 1) := by decide +kernel
theorem dX10_weight_36 : decode cX10_weight 36 = .ok (.getfield 24, 3) := by decide +kernel
theorem dX10_weight_39 : decode cX10_weight 39 = .ok (.getfield 163, 3) := by decide +kernel
theorem dX10_weight_42 : decode cX10_weight 42 = .ok (.iload_n 1, 1) := by decide +kernel
theorem dX10_weight_43 : decode cX10_weight 43 = .ok (.iload_n 2, 1) := by decide +kernel
theorem dX10_weight_44 : decode cX10_weight 44 = .ok (.iastore, 1) := by decide +kernel
theorem dX10_weight_45 : decode cX10_weight 45 = .ok (.iload_n 3, 1) := by decide +kernel
theorem dX10_weight_46 : decode cX10_weight 46 = .ok (.ireturn, 1) := by decide +kernel
def VX10_weight_0 (d : Nat) (Q : Out → MS → Prop) (x0 : Nat) (x1 : Int) (x2 : Int) (S : MS) : Prop :=
  S.K x0 = 10 ∧ Mw hX10_needThing yX10_needThing d [vA x0, vI x1] S (xV (fun S1 => Mw hX10_within yX10_within d [vI x2, vI 999] S1 (oI (fun r2 S2 => R32 r2 ∧ (¬ (r2 = 0) → S2.K x0 = 10 ∧ ∃ b3, S2.R x0 2 = some b3 ∧ (S2.K b3 = 7 ∧ ∃ b4, S2.R b3 0 = some b4 ∧ ((S2.K b4 = 13 ∧ 0 ≤ x1 ∧ x1 < S2.N b4) ∧ (S2.K x0 = 10 ∧ ∃ b5, S2.R x0 2 = some b5 ∧ (S2.K b5 = 7 ∧ ∃ b6, S2.R b5 0 = some b6 ∧ ((S2.K b6 = 13 ∧ 0 ≤ x1 ∧ x1 < S2.N b6) ∧ (Q (.inl (some (vI (S2.I b4 (x1).toNat)))) (S2.setI b6 (x1).toNat x2)))))))) ∧ ((r2 = 0) → 5 ≤ d ∧ Q (.inr "java/lang/IllegalArgumentException") (S2.junk 6))))) (fun E S9 => Q (.inr E) S9))
theorem JX10_weight_0 {d : Nat} {S0 : MS} {Q : Out → MS → Prop} (x0 : Nat) (x1 : Int) (x2 : Int) (S : MS) (h : VX10_weight_0 d Q x0 x1 x2 S) : Jw FinM RX10 cX10_weight 4 (some .int) [] yX10_weight (d + 1) S0 S 0 [(0, vA x0), (1, vI x1), (2, vI x2)] [] Q :=
  j_aload_n 0 dX10_weight_0 rfl (j_iload_n 1 dX10_weight_1 rfl (j_callV (rest := []) 10 [vI x1] k_RX10_158 ⟨w_5_67, p_2_12⟩ ⟨_, _, rfl⟩ (by decide) rfl rfl (Nat.le_of_ble_eq_true rfl) dX10_weight_2 h (kV (fun S1 h => j_iload_n 2 dX10_weight_5 rfl (j_sipush dX10_weight_6 rfl (j_callS (rest := []) [vI x2, vI 999] k_RX10_143 w_5_52 rfl rfl (Nat.le_of_ble_eq_true rfl) dX10_weight_9 h (kI (fun r2 S2 h => j_if_ne (tgt := 25) dX10_weight_12 (by decide) h (fun h => j_aload_n 0 dX10_weight_25 rfl (j_getR 10 2 f_RX10_24 dX10_weight_26 h (fun b3 h => j_getR 7 0 f_RX10_163 dX10_weight_29 h (fun b4 h => j_iload_n 1 dX10_weight_32 rfl (j_iald dX10_weight_33 h (fun h => j_istore_n (lv2 := [(3, vI (S2.I b4 (x1).toNat)), (0, vA x0), (1, vI x1), (2, vI x2)]) dX10_weight_34 (by decide) rfl (j_aload_n 1 dX10_weight_35 rfl (j_getR 10 2 f_RX10_24 dX10_weight_36 h (fun b5 h => j_getR 7 0 f_RX10_163 dX10_weight_39 h (fun b6 h => j_iload_n 2 dX10_weight_42 rfl (j_iload_n 3 dX10_weight_43 rfl (j_iast dX10_weight_44 h (fun h => j_iload_n 0 dX10_weight_45 rfl (j_iret rfl dX10_weight_46 h)))))))))))))) (fun h => j_throw t_RX10_115_119 (List.mem_of_getElem? (i := 6) rfl) dX10_weight_15 dX10_weight_18 dX10_weight_19 dX10_weight_21 dX10_weight_24 (Nat.le_of_ble_eq_true rfl) rfl h))) (fun _ _ h => h.elim))))) (fun _ _ h => jx_out h)))
theorem MX10_weight {d : Nat} {x0 : Nat} {x1 : Int} {x2 : Int} {S : MS} {Q : Out → MS → Prop} (h : VX10_weight_0 d Q x0 x1 x2 S) : Mw hX10_weight yX10_weight (d + 1) [vA x0, vI x1, vI x2] S Q := Mw.ofJ (by decide) (Nat.le_of_ble_eq_true rfl) (JX10_weight_0 _ _ _ S h)
theorem dX10_rises_0 : decode cX10_rises 0 = .ok (.aload_n 0, 1) := by decide +kernel
theorem dX10_rises_1 : decode cX10_rises 1 = .ok (.iload_n 1, 1) := by decide +kernel
theorem dX10_rises_2 : decode cX10_rises 2 = .ok (.invokevirtual 166, 3) := by decide +kernel
theorem dX10_rises_5 : decode cX10_rises 5 = .ok (.aload_n 0, 1) := by decide +kernel
theorem dX10_rises_6 : decode cX10_rises 6 = .ok (.iload_n 1, 1) := by decide +kernel
theorem dX10_rises_7 : decode cX10_rises 7 = .ok (.iload_n 2, 1) := by decide +kernel
theorem dX10_rises_8 : decode cX10_rises 8 = .ok (.invokevirtual 169, 3) := by decide +kernel
theorem dX10_rises_11 : decode cX10_rises 11 = .ok (.aload_n 0, 1) := by decide +kernel
theorem dX10_rises_12 : decode cX10_rises 12 = .ok (.getfield 24, 3) := by decide +kernel
theorem dX10_rises_15 : decode cX10_rises 15 = .ok (.aload_n 0, 1) := by decide +kernel
theorem dX10_rises_16 : decode cX10_rises 16 = .ok (.getfield 24, 3) := by decide +kernel
theorem dX10_rises_19 : decode cX10_rises 19 = .ok (.getfield 173, 3) := by decide +kernel
theorem dX10_rises_22 : decode cX10_rises 22 = .ok (.iload_n 1, 1) := by decide +kernel
theorem dX10_rises_23 : decode cX10_rises 23 = .ok (.iaload, 1) := by decide +kernel
theorem dX10_rises_24 : decode cX10_rises 24 = .ok (.iload_n 2, 1) := by decide +kernel
theorem dX10_rises_25 : decode cX10_rises 25 = .ok (.invokevirtual 176, 3) := by decide +kernel
theorem dX10_rises_28 : decode cX10_rises 28 = .ok (.ireturn, 1) := by decide +kernel
def VX10_rises_0 (d : Nat) (Q : Out → MS → Prop) (x0 : Nat) (x1 : Int) (x2 : Int) (S : MS) : Prop :=
  S.K x0 = 10 ∧ Mw hX10_needScale yX10_needScale d [vA x0, vI x1] S (xV (fun S1 => S1.K x0 = 10 ∧ Mw hX10_needLoad yX10_needLoad d [vA x0, vI x1, vI x2] S1 (xV (fun S2 => S2.K x0 = 10 ∧ ∃ b3, S2.R x0 2 = some b3 ∧ (S2.K x0 = 10 ∧ ∃ b4, S2.R x0 2 = some b4 ∧ (S2.K b4 = 7 ∧ ∃ b5, S2.R b4 1 = some b5 ∧ ((S2.K b5 = 13 ∧ 0 ≤ x1 ∧ x1 < S2.N b5) ∧ (S2.K b3 = 7 ∧ Mw hX7_riser yX7_riser d [vA b3, vI (S2.I b5 (x1).toNat), vI x2] S2 (oI (fun r6 S6 => Q (.inl (some (vI r6))) S6))))))) (fun E S9 => Q (.inr E) S9))) (fun E S9 => Q (.inr E) S9))
theorem JX10_rises_0 {d : Nat} {S0 : MS} {Q : Out → MS → Prop} (x0 : Nat) (x1 : Int) (x2 : Int) (S : MS) (h : VX10_rises_0 d Q x0 x1 x2 S) : Jw FinM RX10 cX10_rises 3 (some .int) [] yX10_rises (d + 1) S0 S 0 [(0, vA x0), (1, vI x1), (2, vI x2)] [] Q :=
  j_aload_n 0 dX10_rises_0 rfl (j_iload_n 1 dX10_rises_1 rfl (j_callV (rest := []) 10 [vI x1] k_RX10_166 ⟨w_5_99, p_2_13⟩ ⟨_, _, rfl⟩ (by decide) rfl rfl (Nat.le_of_ble_eq_true rfl) dX10_rises_2 h (kV (fun S1 h => j_aload_n 0 dX10_rises_5 rfl (j_iload_n 1 dX10_rises_6 rfl (j_iload_n 2 dX10_rises_7 rfl (j_callV (rest := []) 10 [vI x1, vI x2] k_RX10_169 ⟨w_5_104, p_2_14⟩ ⟨_, _, rfl⟩ (by decide) rfl rfl (Nat.le_of_ble_eq_true rfl) dX10_rises_8 h (kV (fun S2 h => j_aload_n 0 dX10_rises_11 rfl (j_getR 10 2 f_RX10_24 dX10_rises_12 h (fun b3 h => j_aload_n 0 dX10_rises_15 rfl (j_getR 10 2 f_RX10_24 dX10_rises_16 h (fun b4 h => j_getR 7 1 f_RX10_173 dX10_rises_19 h (fun b5 h => j_iload_n 1 dX10_rises_22 rfl (j_iald dX10_rises_23 h (fun h => j_iload_n 2 dX10_rises_24 rfl (j_callV (rest := []) 7 [vI (S2.I b5 (x1).toNat), vI x2] k_RX10_176 ⟨w_4_13, w_4_14⟩ ⟨_, _, rfl⟩ (by decide) rfl rfl (Nat.le_of_ble_eq_true rfl) dX10_rises_25 h (kI (fun r6 S6 h => j_iret rfl dX10_rises_28 h)) (fun _ _ h => h.elim))))))))))) (fun _ _ h => jx_out h)))))) (fun _ _ h => jx_out h)))
theorem MX10_rises {d : Nat} {x0 : Nat} {x1 : Int} {x2 : Int} {S : MS} {Q : Out → MS → Prop} (h : VX10_rises_0 d Q x0 x1 x2 S) : Mw hX10_rises yX10_rises (d + 1) [vA x0, vI x1, vI x2] S Q := Mw.ofJ (by decide) (Nat.le_of_ble_eq_true rfl) (JX10_rises_0 _ _ _ S h)
theorem dX10_note_0 : decode cX10_note 0 = .ok (.aload_n 0, 1) := by decide +kernel
theorem dX10_note_1 : decode cX10_note 1 = .ok (.iload_n 1, 1) := by decide +kernel
theorem dX10_note_2 : decode cX10_note 2 = .ok (.invokevirtual 166, 3) := by decide +kernel
theorem dX10_note_5 : decode cX10_note 5 = .ok (.aload_n 0, 1) := by decide +kernel
theorem dX10_note_6 : decode cX10_note 6 = .ok (.iload_n 1, 1) := by decide +kernel
theorem dX10_note_7 : decode cX10_note 7 = .ok (.iload_n 2, 1) := by decide +kernel
theorem dX10_note_8 : decode cX10_note 8 = .ok (.invokevirtual 169, 3) := by decide +kernel
theorem dX10_note_11 : decode cX10_note 11 = .ok (.aload_n 0, 1) := by decide +kernel
theorem dX10_note_12 : decode cX10_note 12 = .ok (.getfield 24, 3) := by decide +kernel
theorem dX10_note_15 : decode cX10_note 15 = .ok (.iload_n 3, 1) := by decide +kernel
theorem dX10_note_16 : decode cX10_note 16 = .ok (.invokevirtual 180, 3) := by decide +kernel
theorem dX10_note_19 : decode cX10_note 19 = .ok (.ifCond .eq 11, 3) := by decide +kernel
theorem dX10_note_22 : decode cX10_note 22 = .ok (.iload_n 2, 1) := by decide +kernel
theorem dX10_note_23 : decode cX10_note 23 = .ok (.iload_n 3, 1) := by decide +kernel
theorem dX10_note_24 : decode cX10_note 24 = .ok (.invokestatic 184, 3) := by decide +kernel
theorem dX10_note_27 : decode cX10_note 27 = .ok (.ifCond .ne 13, 3) := by decide +kernel
theorem dX10_note_30 : decode cX10_note 30 = .ok (.new 115, 3) := by decide +kernel
theorem dX10_note_33 : decode cX10_note 33 = .ok (.dup, 1) := by decide +kernel
theorem dX10_note_34 : decode cX10_note 34 = .ok (.ldc 187, 2) := by decide +kernel
theorem dX10_note_36 : decode cX10_note 36 = .ok (.invokespecial 119, 3) := by decide +kernel
theorem dX10_note_39 : decode cX10_note 39 = .ok (.athrow, 1) := by decide +kernel
theorem dX10_note_40 : decode cX10_note 40 = .ok (.aload_n 0, 1) := by decide +kernel
theorem dX10_note_41 : decode cX10_note 41 = .ok (.getfield 24, 3) := by decide +kernel
theorem dX10_note_44 : decode cX10_note 44 = .ok (.getfield 132, 3) := by decide +kernel
theorem dX10_note_47 : decode cX10_note 47 = .ok (.bipush 16, 2) := by decide +kernel
theorem dX10_note_49 : decode cX10_note 49 = .ok (.if_icmp .lt 13, 3) := by decide +kernel
theorem dX10_note_52 : decode cX10_note 52 = .ok (.new 125, 3) := by decide +kernel
theorem dX10_note_55 : decode cX10_note 55 = .ok (.dup, 1) := by decide +kernel
theorem dX10_note_56 : decode cX10_note 56 = .ok (.ldc 189, 2) := by decide +kernel
theorem dX10_note_58 : decode cX10_note 58 = .ok (.invokespecial 129, 3) := by decide +kernel
theorem dX10_note_61 : decode cX10_note 61 = .ok (.athrow, 1) := by decide +kernel
theorem dX10_note_62 : decode cX10_note 62 = .ok (.aload_n 0, 1) := by decide +kernel
theorem dX10_note_63 : decode cX10_note 63 = .ok (.iconst 0, 1) := by decide +kernel
theorem dX10_note_64 : decode cX10_note 64 = .ok (.putfield 80, 3) := by decide +kernel
theorem dX10_note_67 : decode cX10_note 67 = .ok (.aload_n 0, 1) := by decide +kernel
theorem dX10_note_68 : decode cX10_note 68 = .ok (.getfield 24, 3) := by decide +kernel
theorem dX10_note_71 : decode cX10_note 71 = .ok (.iload_n 1, 1) := by decide +kernel
theorem dX10_note_72 : decode cX10_note 72 = .ok (.iload_n 2, 1) := by decide +kernel
theorem dX10_note_73 : decode cX10_note 73 = .ok (.iload_n 3, 1) := by decide +kernel
theorem dX10_note_74 : decode cX10_note 74 = .ok (.invokevirtual 191, 3) := by decide +kernel
theorem dX10_note_77 : decode cX10_note 77 = .ok (.ireturn, 1) := by decide +kernel
def VX10_note_30 (d : Nat) (Q : Out → MS → Prop) (S : MS) : Prop :=
  5 ≤ d ∧ Q (.inr "java/lang/IllegalArgumentException") (S.junk 6)
theorem JX10_note_30 {d : Nat} {S0 : MS} {Q : Out → MS → Prop} (S : MS) (h : VX10_note_30 d Q S) : Jw FinM RX10 cX10_note 4 (some .int) [] yX10_note (d + 1) S0 S 30 [] [] Q :=
  j_throw t_RX10_115_119 (List.mem_of_getElem? (i := 7) rfl) dX10_note_30 dX10_note_33 dX10_note_34 dX10_note_36 dX10_note_39 (Nat.le_of_ble_eq_true rfl) rfl h
def VX10_note_0 (d : Nat) (Q : Out → MS → Prop) (x0 : Nat) (x1 : Int) (x2 : Int) (x3 : Int) (S : MS) : Prop :=
  S.K x0 = 10 ∧ Mw hX10_needScale yX10_needScale d [vA x0, vI x1] S (xV (fun S1 => S1.K x0 = 10 ∧ Mw hX10_needLoad yX10_needLoad d [vA x0, vI x1, vI x2] S1 (xV (fun S2 => S2.K x0 = 10 ∧ ∃ b3, S2.R x0 2 = some b3 ∧ (S2.K b3 = 7 ∧ Mw hX7_isThing yX7_isThing d [vA b3, vI x3] S2 (oI (fun r4 S4 => R32 r4 ∧ ((r4 = 0) → VX10_note_30 d Q S4) ∧ (¬ (r4 = 0) → Mw hX10_holds yX10_holds d [vI x2, vI x3] S4 (oI (fun r5 S5 => R32 r5 ∧ (¬ (r5 = 0) → S5.K x0 = 10 ∧ ∃ b6, S5.R x0 2 = some b6 ∧ (S5.K b6 = 7 ∧ ((R32 (S5.I b6 9) ∧ R32 (16 : Int)) ∧ (((S5.I b6 9) < (16 : Int)) → (S5.K x0 = 10 ∧ B01 0) ∧ ((S5.setI x0 12 0).K x0 = 10 ∧ ∃ b7, (S5.setI x0 12 0).R x0 2 = some b7 ∧ ((S5.setI x0 12 0).K b7 = 7 ∧ Mw hX7_addNote yX7_addNote d [vA b7, vI x1, vI x2, vI x3] (S5.setI x0 12 0) (oI (fun r8 S8 => Q (.inl (some (vI r8))) S8))))) ∧ (¬ ((S5.I b6 9) < (16 : Int)) → 5 ≤ d ∧ Q (.inr "java/lang/UnsupportedOperationException") (S5.junk 6))))) ∧ ((r5 = 0) → VX10_note_30 d Q S5)))))))) (fun E S9 => Q (.inr E) S9))) (fun E S9 => Q (.inr E) S9))
theorem JX10_note_0 {d : Nat} {S0 : MS} {Q : Out → MS → Prop} (x0 : Nat) (x1 : Int) (x2 : Int) (x3 : Int) (S : MS) (h : VX10_note_0 d Q x0 x1 x2 x3 S) : Jw FinM RX10 cX10_note 4 (some .int) [] yX10_note (d + 1) S0 S 0 [(0, vA x0), (1, vI x1), (2, vI x2), (3, vI x3)] [] Q :=
  j_aload_n 0 dX10_note_0 rfl (j_iload_n 1 dX10_note_1 rfl (j_callV (rest := []) 10 [vI x1] k_RX10_166 ⟨w_5_99, p_2_13⟩ ⟨_, _, rfl⟩ (by decide) rfl rfl (Nat.le_of_ble_eq_true rfl) dX10_note_2 h (kV (fun S1 h => j_aload_n 0 dX10_note_5 rfl (j_iload_n 1 dX10_note_6 rfl (j_iload_n 2 dX10_note_7 rfl (j_callV (rest := []) 10 [vI x1, vI x2] k_RX10_169 ⟨w_5_104, p_2_14⟩ ⟨_, _, rfl⟩ (by decide) rfl rfl (Nat.le_of_ble_eq_true rfl) dX10_note_8 h (kV (fun S2 h => j_aload_n 0 dX10_note_11 rfl (j_getR 10 2 f_RX10_24 dX10_note_12 h (fun b3 h => j_iload_n 3 dX10_note_15 rfl (j_callV (rest := []) 7 [vI x3] k_RX10_180 ⟨w_5_70, w_5_71⟩ ⟨_, _, rfl⟩ (by decide) rfl rfl (Nat.le_of_ble_eq_true rfl) dX10_note_16 h (kI (fun r4 S4 h => j_if_eq (tgt := 30) dX10_note_19 (by decide) h (fun h => j_sub [] rfl (JX10_note_30 _ h)) (fun h => j_iload_n 2 dX10_note_22 rfl (j_iload_n 3 dX10_note_23 rfl (j_callS (rest := []) [vI x2, vI x3] k_RX10_184 w_2_192 rfl rfl (Nat.le_of_ble_eq_true rfl) dX10_note_24 h (kI (fun r5 S5 h => j_if_ne (tgt := 40) dX10_note_27 (by decide) h (fun h => j_aload_n 0 dX10_note_40 rfl (j_getR 10 2 f_RX10_24 dX10_note_41 h (fun b6 h => j_getI 7 9 f_RX10_132 dX10_note_44 h (fun h => j_bipush dX10_note_47 rfl (j_icmp_lt (tgt := 62) dX10_note_49 (by decide) h (fun h => j_aload_n 0 dX10_note_62 rfl (j_iconst dX10_note_63 (j_putZ 10 12 f_RX10_80 dX10_note_64 h (fun h => j_aload_n 0 dX10_note_67 rfl (j_getR 10 2 f_RX10_24 dX10_note_68 h (fun b7 h => j_iload_n 1 dX10_note_71 rfl (j_iload_n 2 dX10_note_72 rfl (j_iload_n 3 dX10_note_73 rfl (j_callV (rest := []) 7 [vI x1, vI x2, vI x3] k_RX10_191 ⟨w_4_165, w_4_166⟩ ⟨_, _, rfl⟩ (by decide) rfl rfl (Nat.le_of_ble_eq_true rfl) dX10_note_74 h (kI (fun r8 S8 h => j_iret rfl dX10_note_77 h)) (fun _ _ h => h.elim)))))))))) (fun h => j_throw t_RX10_125_129 (List.mem_of_getElem? (i := 8) rfl) dX10_note_52 dX10_note_55 dX10_note_56 dX10_note_58 dX10_note_61 (Nat.le_of_ble_eq_true rfl) rfl h)))))) (fun h => j_sub [] rfl (JX10_note_30 _ h)))) (fun _ _ h => h.elim)))))) (fun _ _ h => h.elim)))))) (fun _ _ h => jx_out h)))))) (fun _ _ h => jx_out h)))
theorem MX10_note {d : Nat} {x0 : Nat} {x1 : Int} {x2 : Int} {x3 : Int} {S : MS} {Q : Out → MS → Prop} (h : VX10_note_0 d Q x0 x1 x2 x3 S) : Mw hX10_note yX10_note (d + 1) [vA x0, vI x1, vI x2, vI x3] S Q := Mw.ofJ (by decide) (Nat.le_of_ble_eq_true rfl) (JX10_note_0 _ _ _ _ S h)
theorem dX10_look_0 : decode cX10_look 0 = .ok (.aload_n 0, 1) := by decide +kernel
theorem dX10_look_1 : decode cX10_look 1 = .ok (.iload_n 1, 1) := by decide +kernel
theorem dX10_look_2 : decode cX10_look 2 = .ok (.invokevirtual 194, 3) := by decide +kernel
theorem dX10_look_5 : decode cX10_look 5 = .ok (.iload_n 2, 1) := by decide +kernel
theorem dX10_look_6 : decode cX10_look 6 = .ok (.tableswitch 56 0 2 #[26, 36, 46], 26) := by decide +kernel
theorem dX10_look_32 : decode cX10_look 32 = .ok (.aload_n 0, 1) := by decide +kernel
theorem dX10_look_33 : decode cX10_look 33 = .ok (.getfield 24, 3) := by decide +kernel
theorem dX10_look_36 : decode cX10_look 36 = .ok (.getfield 197, 3) := by decide +kernel
theorem dX10_look_39 : decode cX10_look 39 = .ok (.iload_n 1, 1) := by decide +kernel
theorem dX10_look_40 : decode cX10_look 40 = .ok (.iaload, 1) := by decide +kernel
theorem dX10_look_41 : decode cX10_look 41 = .ok (.ireturn, 1) := by decide +kernel
theorem dX10_look_42 : decode cX10_look 42 = .ok (.aload_n 0, 1) := by decide +kernel
theorem dX10_look_43 : decode cX10_look 43 = .ok (.getfield 24, 3) := by decide +kernel
theorem dX10_look_46 : decode cX10_look 46 = .ok (.getfield 200, 3) := by decide +kernel
theorem dX10_look_49 : decode cX10_look 49 = .ok (.iload_n 1, 1) := by decide +kernel
theorem dX10_look_50 : decode cX10_look 50 = .ok (.iaload, 1) := by decide +kernel
theorem dX10_look_51 : decode cX10_look 51 = .ok (.ireturn, 1) := by decide +kernel
theorem dX10_look_52 : decode cX10_look 52 = .ok (.aload_n 0, 1) := by decide +kernel
theorem dX10_look_53 : decode cX10_look 53 = .ok (.getfield 24, 3) := by decide +kernel
theorem dX10_look_56 : decode cX10_look 56 = .ok (.getfield 203, 3) := by decide +kernel
theorem dX10_look_59 : decode cX10_look 59 = .ok (.iload_n 1, 1) := by decide +kernel
theorem dX10_look_60 : decode cX10_look 60 = .ok (.iaload, 1) := by decide +kernel
theorem dX10_look_61 : decode cX10_look 61 = .ok (.ireturn, 1) := by decide +kernel
theorem dX10_look_62 : decode cX10_look 62 = .ok (.new 206, 3) := by decide +kernel
theorem dX10_look_65 : decode cX10_look 65 = .ok (.dup, 1) := by decide +kernel
theorem dX10_look_66 : decode cX10_look 66 = .ok (.ldc 208, 2) := by decide +kernel
theorem dX10_look_68 : decode cX10_look 68 = .ok (.invokespecial 210, 3) := by decide +kernel
theorem dX10_look_71 : decode cX10_look 71 = .ok (.athrow, 1) := by decide +kernel
def VX10_look_0 (d : Nat) (Q : Out → MS → Prop) (x0 : Nat) (x1 : Int) (x2 : Int) (S : MS) : Prop :=
  S.K x0 = 10 ∧ Mw hX10_needNote yX10_needNote d [vA x0, vI x1] S (xV (fun S1 => R32 x2 ∧ ((x2 = 0 → S1.K x0 = 10 ∧ ∃ b2, S1.R x0 2 = some b2 ∧ (S1.K b2 = 7 ∧ ∃ b3, S1.R b2 4 = some b3 ∧ ((S1.K b3 = 13 ∧ 0 ≤ x1 ∧ x1 < S1.N b3) ∧ (Q (.inl (some (vI (S1.I b3 (x1).toNat)))) S1)))) ∧ ((x2 = 1 → S1.K x0 = 10 ∧ ∃ b4, S1.R x0 2 = some b4 ∧ (S1.K b4 = 7 ∧ ∃ b5, S1.R b4 5 = some b5 ∧ ((S1.K b5 = 13 ∧ 0 ≤ x1 ∧ x1 < S1.N b5) ∧ (Q (.inl (some (vI (S1.I b5 (x1).toNat)))) S1)))) ∧ ((x2 = 2 → S1.K x0 = 10 ∧ ∃ b6, S1.R x0 2 = some b6 ∧ (S1.K b6 = 7 ∧ ∃ b7, S1.R b6 6 = some b7 ∧ ((S1.K b7 = 13 ∧ 0 ≤ x1 ∧ x1 < S1.N b7) ∧ (Q (.inl (some (vI (S1.I b7 (x1).toNat)))) S1)))) ∧ ((x2 < 0 ∨ 2 < x2) → 5 ≤ d ∧ Q (.inr "java/util/NoSuchElementException") (S1.junk 6)))))) (fun E S9 => Q (.inr E) S9))
theorem JX10_look_0 {d : Nat} {S0 : MS} {Q : Out → MS → Prop} (x0 : Nat) (x1 : Int) (x2 : Int) (S : MS) (h : VX10_look_0 d Q x0 x1 x2 S) : Jw FinM RX10 cX10_look 3 (some .int) [] yX10_look (d + 1) S0 S 0 [(0, vA x0), (1, vI x1), (2, vI x2)] [] Q :=
  j_aload_n 0 dX10_look_0 rfl (j_iload_n 1 dX10_look_1 rfl (j_callV (rest := []) 10 [vI x1] k_RX10_194 ⟨w_5_134, p_2_15⟩ ⟨_, _, rfl⟩ (by decide) rfl rfl (Nat.le_of_ble_eq_true rfl) dX10_look_2 h (kV (fun S1 h => j_iload_n 2 dX10_look_5 rfl ((have hr := h.1; have h := h.2; j_tswC (cv := 0) (tgt := 32) dX10_look_6 hr (by decide) (by decide) rfl (by decide) h (fun h => j_aload_n 0 dX10_look_32 rfl (j_getR 10 2 f_RX10_24 dX10_look_33 h (fun b2 h => j_getR 7 4 f_RX10_197 dX10_look_36 h (fun b3 h => j_iload_n 1 dX10_look_39 rfl (j_iald dX10_look_40 h (fun h => j_iret rfl dX10_look_41 h)))))) (fun hne0 h => j_tswC (cv := 1) (tgt := 42) dX10_look_6 hr (by decide) (by decide) rfl (by decide) h (fun h => j_aload_n 0 dX10_look_42 rfl (j_getR 10 2 f_RX10_24 dX10_look_43 h (fun b4 h => j_getR 7 5 f_RX10_200 dX10_look_46 h (fun b5 h => j_iload_n 1 dX10_look_49 rfl (j_iald dX10_look_50 h (fun h => j_iret rfl dX10_look_51 h)))))) (fun hne1 h => j_tswC (cv := 2) (tgt := 52) dX10_look_6 hr (by decide) (by decide) rfl (by decide) h (fun h => j_aload_n 0 dX10_look_52 rfl (j_getR 10 2 f_RX10_24 dX10_look_53 h (fun b6 h => j_getR 7 6 f_RX10_203 dX10_look_56 h (fun b7 h => j_iload_n 1 dX10_look_59 rfl (j_iald dX10_look_60 h (fun h => j_iret rfl dX10_look_61 h)))))) (fun hne2 h => j_tswD (tgt := 62) dX10_look_6 hr (tsw_2 hne0 hne1 hne2) (by decide) h (fun h => j_throw t_RX10_206_210 (List.mem_of_getElem? (i := 9) rfl) dX10_look_62 dX10_look_65 dX10_look_66 dX10_look_68 dX10_look_71 (Nat.le_of_ble_eq_true rfl) rfl h)))))))) (fun _ _ h => jx_out h)))
theorem MX10_look {d : Nat} {x0 : Nat} {x1 : Int} {x2 : Int} {S : MS} {Q : Out → MS → Prop} (h : VX10_look_0 d Q x0 x1 x2 S) : Mw hX10_look yX10_look (d + 1) [vA x0, vI x1, vI x2] S Q := Mw.ofJ (by decide) (Nat.le_of_ble_eq_true rfl) (JX10_look_0 _ _ _ S h)
theorem dX10_drop_0 : decode cX10_drop 0 = .ok (.aload_n 0, 1) := by decide +kernel
theorem dX10_drop_1 : decode cX10_drop 1 = .ok (.iload_n 1, 1) := by decide +kernel
theorem dX10_drop_2 : decode cX10_drop 2 = .ok (.invokevirtual 194, 3) := by decide +kernel
theorem dX10_drop_5 : decode cX10_drop 5 = .ok (.aload_n 0, 1) := by decide +kernel
theorem dX10_drop_6 : decode cX10_drop 6 = .ok (.getfield 24, 3) := by decide +kernel
theorem dX10_drop_9 : decode cX10_drop 9 = .ok (.iload_n 1, 1) := by decide +kernel
theorem dX10_drop_10 : decode cX10_drop 10 = .ok (.invokevirtual 211, 3) := by decide +kernel
theorem dX10_drop_13 : decode cX10_drop 13 = .ok (.aload_n 0, 1) := by decide +kernel
theorem dX10_drop_14 : decode cX10_drop 14 = .ok (.iconst 0, 1) := by decide +kernel
theorem dX10_drop_15 : decode cX10_drop 15 = .ok (.putfield 80, 3) := by decide +kernel
theorem dX10_drop_18 : decode cX10_drop 18 = .ok (.aload_n 0, 1) := by decide +kernel
theorem dX10_drop_19 : decode cX10_drop 19 = .ok (.getfield 24, 3) := by decide +kernel
theorem dX10_drop_22 : decode cX10_drop 22 = .ok (.getfield 132, 3) := by decide +kernel
theorem dX10_drop_25 : decode cX10_drop 25 = .ok (.ireturn, 1) := by decide +kernel
def VX10_drop_0 (d : Nat) (Q : Out → MS → Prop) (x0 : Nat) (x1 : Int) (S : MS) : Prop :=
  S.K x0 = 10 ∧ Mw hX10_needNote yX10_needNote d [vA x0, vI x1] S (xV (fun S1 => S1.K x0 = 10 ∧ ∃ b2, S1.R x0 2 = some b2 ∧ (S1.K b2 = 7 ∧ Mw hX7_putAway yX7_putAway d [vA b2, vI x1] S1 (oV (fun S3 => (S3.K x0 = 10 ∧ B01 0) ∧ ((S3.setI x0 12 0).K x0 = 10 ∧ ∃ b4, (S3.setI x0 12 0).R x0 2 = some b4 ∧ ((S3.setI x0 12 0).K b4 = 7 ∧ (Q (.inl (some (vI ((S3.setI x0 12 0).I b4 9)))) (S3.setI x0 12 0)))))))) (fun E S9 => Q (.inr E) S9))
theorem JX10_drop_0 {d : Nat} {S0 : MS} {Q : Out → MS → Prop} (x0 : Nat) (x1 : Int) (S : MS) (h : VX10_drop_0 d Q x0 x1 S) : Jw FinM RX10 cX10_drop 2 (some .int) [] yX10_drop (d + 1) S0 S 0 [(0, vA x0), (1, vI x1)] [] Q :=
  j_aload_n 0 dX10_drop_0 rfl (j_iload_n 1 dX10_drop_1 rfl (j_callV (rest := []) 10 [vI x1] k_RX10_194 ⟨w_5_134, p_2_15⟩ ⟨_, _, rfl⟩ (by decide) rfl rfl (Nat.le_of_ble_eq_true rfl) dX10_drop_2 h (kV (fun S1 h => j_aload_n 0 dX10_drop_5 rfl (j_getR 10 2 f_RX10_24 dX10_drop_6 h (fun b2 h => j_iload_n 1 dX10_drop_9 rfl (j_callV (rest := []) 7 [vI x1] k_RX10_211 ⟨w_5_161, w_5_162⟩ ⟨_, _, rfl⟩ (by decide) rfl rfl (Nat.le_of_ble_eq_true rfl) dX10_drop_10 h (kV (fun S3 h => j_aload_n 0 dX10_drop_13 rfl (j_iconst dX10_drop_14 (j_putZ 10 12 f_RX10_80 dX10_drop_15 h (fun h => j_aload_n 0 dX10_drop_18 rfl (j_getR 10 2 f_RX10_24 dX10_drop_19 h (fun b4 h => j_getI 7 9 f_RX10_132 dX10_drop_22 h (fun h => j_iret rfl dX10_drop_25 h)))))))) (fun _ _ h => h.elim)))))) (fun _ _ h => jx_out h)))
theorem MX10_drop {d : Nat} {x0 : Nat} {x1 : Int} {S : MS} {Q : Out → MS → Prop} (h : VX10_drop_0 d Q x0 x1 S) : Mw hX10_drop yX10_drop (d + 1) [vA x0, vI x1] S Q := Mw.ofJ (by decide) (Nat.le_of_ble_eq_true rfl) (JX10_drop_0 _ _ S h)
theorem dX10_rows_0 : decode cX10_rows 0 = .ok (.aload_n 0, 1) := by decide +kernel
theorem dX10_rows_1 : decode cX10_rows 1 = .ok (.invokevirtual 214, 3) := by decide +kernel
theorem dX10_rows_4 : decode cX10_rows 4 = .ok (.getfield 218, 3) := by decide +kernel
theorem dX10_rows_7 : decode cX10_rows 7 = .ok (.ireturn, 1) := by decide +kernel
def VX10_rows_0 (d : Nat) (Q : Out → MS → Prop) (x0 : Nat) (S : MS) : Prop :=
  S.K x0 = 10 ∧ Mw hX10_rowsLeft yX10_rowsLeft d [vA x0] S (oA (fun r1 S1 => S1.K r1 = 5 ∧ (Q (.inl (some (vI (S1.I r1 0)))) S1)))
theorem JX10_rows_0 {d : Nat} {S0 : MS} {Q : Out → MS → Prop} (x0 : Nat) (S : MS) (h : VX10_rows_0 d Q x0 S) : Jw FinM RX10 cX10_rows 1 (some .int) [] yX10_rows (d + 1) S0 S 0 [(0, vA x0)] [] Q :=
  j_aload_n 0 dX10_rows_0 rfl (j_callV (rest := []) 10 [] k_RX10_214 ⟨w_2_57, p_1_0⟩ ⟨_, _, rfl⟩ (by decide) rfl rfl (Nat.le_of_ble_eq_true rfl) dX10_rows_1 h (kA (fun r1 S1 h => j_getI 5 0 f_RX10_218 dX10_rows_4 h (fun h => j_iret rfl dX10_rows_7 h))) (fun _ _ h => h.elim))
theorem MX10_rows {d : Nat} {x0 : Nat} {S : MS} {Q : Out → MS → Prop} (h : VX10_rows_0 d Q x0 S) : Mw hX10_rows yX10_rows (d + 1) [vA x0] S Q := Mw.ofJ (by decide) (Nat.le_of_ble_eq_true rfl) (JX10_rows_0 _ S h)
theorem dX10_row_0 : decode cX10_row 0 = .ok (.aload_n 0, 1) := by decide +kernel
theorem dX10_row_1 : decode cX10_row 1 = .ok (.getfield 24, 3) := by decide +kernel
theorem dX10_row_4 : decode cX10_row 4 = .ok (.iload_n 2, 1) := by decide +kernel
theorem dX10_row_5 : decode cX10_row 5 = .ok (.invokevirtual 180, 3) := by decide +kernel
theorem dX10_row_8 : decode cX10_row 8 = .ok (.ifCond .ne 13, 3) := by decide +kernel
theorem dX10_row_11 : decode cX10_row 11 = .ok (.new 221, 3) := by decide +kernel
theorem dX10_row_14 : decode cX10_row 14 = .ok (.dup, 1) := by decide +kernel
theorem dX10_row_15 : decode cX10_row 15 = .ok (.ldc 223, 2) := by decide +kernel
theorem dX10_row_17 : decode cX10_row 17 = .ok (.invokespecial 225, 3) := by decide +kernel
theorem dX10_row_20 : decode cX10_row 20 = .ok (.athrow, 1) := by decide +kernel
theorem dX10_row_21 : decode cX10_row 21 = .ok (.aload_n 0, 1) := by decide +kernel
theorem dX10_row_22 : decode cX10_row 22 = .ok (.invokevirtual 214, 3) := by decide +kernel
theorem dX10_row_25 : decode cX10_row 25 = .ok (.iload_n 1, 1) := by decide +kernel
theorem dX10_row_26 : decode cX10_row 26 = .ok (.invokevirtual 226, 3) := by decide +kernel
theorem dX10_row_29 : decode cX10_row 29 = .ok (.istore_n 3, 1) := by decide +kernel
theorem dX10_row_30 : decode cX10_row 30 = .ok (.iload_n 3, 1) := by decide +kernel
theorem dX10_row_31 : decode cX10_row 31 = .ok (.iconst (-1), 1) := by decide +kernel
theorem dX10_row_32 : decode cX10_row 32 = .ok (.if_icmp .ne 7, 3) := by decide +kernel
theorem dX10_row_35 : decode cX10_row 35 = .ok (.iconst (-1), 1) := by decide +kernel
theorem dX10_row_36 : decode cX10_row 36 = .ok (.goto 15, 3) := by decide +kernel
theorem dX10_row_39 : decode cX10_row 39 = .ok (.aload_n 0, 1) := by decide +kernel
theorem dX10_row_40 : decode cX10_row 40 = .ok (.invokevirtual 229, 3) := by decide +kernel
theorem dX10_row_43 : decode cX10_row 43 = .ok (.iload_n 3, 1) := by decide +kernel
theorem dX10_row_44 : decode cX10_row 44 = .ok (.invokevirtual 233, 3) := by decide +kernel
theorem dX10_row_47 : decode cX10_row 47 = .ok (.iload_n 2, 1) := by decide +kernel
theorem dX10_row_48 : decode cX10_row 48 = .ok (.invokestatic 236, 3) := by decide +kernel
theorem dX10_row_51 : decode cX10_row 51 = .ok (.ireturn, 1) := by decide +kernel
def VX10_row_0 (d : Nat) (Q : Out → MS → Prop) (x0 : Nat) (x1 : Int) (x2 : Int) (S : MS) : Prop :=
  S.K x0 = 10 ∧ ∃ b1, S.R x0 2 = some b1 ∧ (S.K b1 = 7 ∧ Mw hX7_isThing yX7_isThing d [vA b1, vI x2] S (oI (fun r2 S2 => R32 r2 ∧ (¬ (r2 = 0) → S2.K x0 = 10 ∧ Mw hX10_rowsLeft yX10_rowsLeft d [vA x0] S2 (oA (fun r3 S3 => S3.K r3 = 5 ∧ Mw hX5_numberAt yX5_numberAt d [vA r3, vI x1] S3 (oI (fun r4 S4 => (R32 r4 ∧ R32 ((-1) : Int)) ∧ (¬ (r4 = ((-1) : Int)) → S4.K x0 = 10 ∧ Mw hX10_allRows yX10_allRows d [vA x0] S4 (oA (fun r5 S5 => S5.K r5 = 0 ∧ Mw hX0_packed yX0_packed d [vA r5, vI r4] S5 (oI (fun r6 S6 => Mw hX10_at yX10_at d [vI r6, vI x2] S6 (oI (fun r7 S7 => Q (.inl (some (vI r7))) S7))))))) ∧ ((r4 = ((-1) : Int)) → Q (.inl (some (vI ((-1))))) S4)))))) ∧ ((r2 = 0) → 5 ≤ d ∧ Q (.inr "java/lang/IndexOutOfBoundsException") (S2.junk 6)))))
theorem JX10_row_0 {d : Nat} {S0 : MS} {Q : Out → MS → Prop} (x0 : Nat) (x1 : Int) (x2 : Int) (S : MS) (h : VX10_row_0 d Q x0 x1 x2 S) : Jw FinM RX10 cX10_row 4 (some .int) [] yX10_row (d + 1) S0 S 0 [(0, vA x0), (1, vI x1), (2, vI x2)] [] Q :=
  j_aload_n 0 dX10_row_0 rfl (j_getR 10 2 f_RX10_24 dX10_row_1 h (fun b1 h => j_iload_n 2 dX10_row_4 rfl (j_callV (rest := []) 7 [vI x2] k_RX10_180 ⟨w_5_70, w_5_71⟩ ⟨_, _, rfl⟩ (by decide) rfl rfl (Nat.le_of_ble_eq_true rfl) dX10_row_5 h (kI (fun r2 S2 h => j_if_ne (tgt := 21) dX10_row_8 (by decide) h (fun h => j_aload_n 0 dX10_row_21 rfl (j_callV (rest := []) 10 [] k_RX10_214 ⟨w_2_57, p_1_0⟩ ⟨_, _, rfl⟩ (by decide) rfl rfl (Nat.le_of_ble_eq_true rfl) dX10_row_22 h (kA (fun r3 S3 h => j_iload_n 1 dX10_row_25 rfl (j_callV (rest := []) 5 [vI x1] k_RX10_226 ⟨w_3_67, w_3_68⟩ ⟨_, _, rfl⟩ (by decide) rfl rfl (Nat.le_of_ble_eq_true rfl) dX10_row_26 h (kI (fun r4 S4 h => j_istore_n (lv2 := [(3, vI r4), (0, vA x0), (1, vI x1), (2, vI x2)]) dX10_row_29 (by decide) rfl (j_iload_n 0 dX10_row_30 rfl (j_iconst dX10_row_31 (j_icmp_ne (tgt := 39) dX10_row_32 (by decide) h (fun h => j_aload_n 1 dX10_row_39 rfl (j_callV (rest := []) 10 [] k_RX10_229 ⟨w_2_61, p_1_1⟩ ⟨_, _, rfl⟩ (by decide) rfl rfl (Nat.le_of_ble_eq_true rfl) dX10_row_40 h (kA (fun r5 S5 h => j_iload_n 0 dX10_row_43 rfl (j_callV (rest := []) 0 [vI r4] k_RX10_233 ⟨w_3_74, w_3_75⟩ ⟨_, _, rfl⟩ (by decide) rfl rfl (Nat.le_of_ble_eq_true rfl) dX10_row_44 h (kI (fun r6 S6 h => j_iload_n 3 dX10_row_47 rfl (j_callS (rest := []) [vI r6, vI x2] k_RX10_236 w_3_82 rfl rfl (Nat.le_of_ble_eq_true rfl) dX10_row_48 h (kI (fun r7 S7 h => j_iret rfl dX10_row_51 h)) (fun _ _ h => h.elim)))) (fun _ _ h => h.elim)))) (fun _ _ h => h.elim))) (fun h => j_iconst dX10_row_35 (j_goto (tgt := 51) dX10_row_36 (by decide) (j_iret rfl dX10_row_51 h)))))))) (fun _ _ h => h.elim)))) (fun _ _ h => h.elim))) (fun h => j_throw t_RX10_221_225 (List.mem_of_getElem? (i := 10) rfl) dX10_row_11 dX10_row_14 dX10_row_15 dX10_row_17 dX10_row_20 (Nat.le_of_ble_eq_true rfl) rfl h))) (fun _ _ h => h.elim))))
theorem MX10_row {d : Nat} {x0 : Nat} {x1 : Int} {x2 : Int} {S : MS} {Q : Out → MS → Prop} (h : VX10_row_0 d Q x0 x1 x2 S) : Mw hX10_row yX10_row (d + 1) [vA x0, vI x1, vI x2] S Q := Mw.ofJ (by decide) (Nat.le_of_ble_eq_true rfl) (JX10_row_0 _ _ _ S h)
theorem dX10_fits_0 : decode cX10_fits 0 = .ok (.aload_n 0, 1) := by decide +kernel
theorem dX10_fits_1 : decode cX10_fits 1 = .ok (.invokevirtual 239, 3) := by decide +kernel
theorem dX10_fits_4 : decode cX10_fits 4 = .ok (.istore_n 1, 1) := by decide +kernel
theorem dX10_fits_5 : decode cX10_fits 5 = .ok (.aload_n 0, 1) := by decide +kernel
theorem dX10_fits_6 : decode cX10_fits 6 = .ok (.invokevirtual 214, 3) := by decide +kernel
theorem dX10_fits_9 : decode cX10_fits 9 = .ok (.aload_n 0, 1) := by decide +kernel
theorem dX10_fits_10 : decode cX10_fits 10 = .ok (.invokevirtual 229, 3) := by decide +kernel
theorem dX10_fits_13 : decode cX10_fits 13 = .ok (.iload_n 1, 1) := by decide +kernel
theorem dX10_fits_14 : decode cX10_fits 14 = .ok (.invokevirtual 242, 3) := by decide +kernel
theorem dX10_fits_17 : decode cX10_fits 17 = .ok (.invokevirtual 245, 3) := by decide +kernel
theorem dX10_fits_20 : decode cX10_fits 20 = .ok (.ireturn, 1) := by decide +kernel
def VX10_fits_0 (d : Nat) (Q : Out → MS → Prop) (x0 : Nat) (S : MS) : Prop :=
  S.K x0 = 10 ∧ Mw hX10_toldRow yX10_toldRow d [vA x0] S (xI (fun r1 S1 => S1.K x0 = 10 ∧ Mw hX10_rowsLeft yX10_rowsLeft d [vA x0] S1 (oA (fun r2 S2 => S2.K x0 = 10 ∧ Mw hX10_allRows yX10_allRows d [vA x0] S2 (oA (fun r3 S3 => S3.K r3 = 0 ∧ Mw hX0_numberOf yX0_numberOf d [vA r3, vI r1] S3 (oI (fun r4 S4 => S4.K r2 = 5 ∧ Mw hX5_has yX5_has d [vA r2, vI r4] S4 (oI (fun r5 S5 => B01 r5 ∧ Q (.inl (some (vI r5))) S5))))))))) (fun E S9 => Q (.inr E) S9))
theorem JX10_fits_0 {d : Nat} {S0 : MS} {Q : Out → MS → Prop} (x0 : Nat) (S : MS) (h : VX10_fits_0 d Q x0 S) : Jw FinM RX10 cX10_fits 2 (some .boolean) [] yX10_fits (d + 1) S0 S 0 [(0, vA x0)] [] Q :=
  j_aload_n 0 dX10_fits_0 rfl (j_callV (rest := []) 10 [] k_RX10_239 ⟨w_5_184, p_3_0⟩ ⟨_, _, rfl⟩ (by decide) rfl rfl (Nat.le_of_ble_eq_true rfl) dX10_fits_1 h (kI (fun r1 S1 h => j_istore_n (lv2 := [(1, vI r1), (0, vA x0)]) dX10_fits_4 (by decide) rfl (j_aload_n 1 dX10_fits_5 rfl (j_callV (rest := []) 10 [] k_RX10_214 ⟨w_2_57, p_1_0⟩ ⟨_, _, rfl⟩ (by decide) rfl rfl (Nat.le_of_ble_eq_true rfl) dX10_fits_6 h (kA (fun r2 S2 h => j_aload_n 1 dX10_fits_9 rfl (j_callV (rest := [vA r2]) 10 [] k_RX10_229 ⟨w_2_61, p_1_1⟩ ⟨_, _, rfl⟩ (by decide) rfl rfl (Nat.le_of_ble_eq_true rfl) dX10_fits_10 h (kA (fun r3 S3 h => j_iload_n 0 dX10_fits_13 rfl (j_callV (rest := [vA r2]) 0 [vI r1] k_RX10_242 ⟨w_4_1, w_4_2⟩ ⟨_, _, rfl⟩ (by decide) rfl rfl (Nat.le_of_ble_eq_true rfl) dX10_fits_14 h (kI (fun r4 S4 h => j_callV (rest := []) 5 [vI r4] k_RX10_245 ⟨w_4_5, w_4_6⟩ ⟨_, _, rfl⟩ (by decide) rfl rfl (Nat.le_of_ble_eq_true rfl) dX10_fits_17 h (kI (fun r5 S5 h => j_zret rfl dX10_fits_20 h)) (fun _ _ h => h.elim))) (fun _ _ h => h.elim)))) (fun _ _ h => h.elim)))) (fun _ _ h => h.elim))))) (fun _ _ h => jx_out h))
theorem MX10_fits {d : Nat} {x0 : Nat} {S : MS} {Q : Out → MS → Prop} (h : VX10_fits_0 d Q x0 S) : Mw hX10_fits yX10_fits (d + 1) [vA x0] S Q := Mw.ofJ (by decide) (Nat.le_of_ble_eq_true rfl) (JX10_fits_0 _ S h)
theorem dX10_may_0 : decode cX10_may 0 = .ok (.aload_n 0, 1) := by decide +kernel
theorem dX10_may_1 : decode cX10_may 1 = .ok (.iload_n 1, 1) := by decide +kernel
theorem dX10_may_2 : decode cX10_may 2 = .ok (.invokevirtual 248, 3) := by decide +kernel
theorem dX10_may_5 : decode cX10_may 5 = .ok (.aload_n 0, 1) := by decide +kernel
theorem dX10_may_6 : decode cX10_may 6 = .ok (.iload_n 1, 1) := by decide +kernel
theorem dX10_may_7 : decode cX10_may 7 = .ok (.invokevirtual 251, 3) := by decide +kernel
theorem dX10_may_10 : decode cX10_may 10 = .ok (.ireturn, 1) := by decide +kernel
def VX10_may_0 (d : Nat) (Q : Out → MS → Prop) (x0 : Nat) (x1 : Int) (S : MS) : Prop :=
  S.K x0 = 10 ∧ Mw hX10_needThree yX10_needThree d [vA x0, vI x1] S (xV (fun S1 => S1.K x0 = 10 ∧ Mw hX10_mayRise yX10_mayRise d [vA x0, vI x1] S1 (oI (fun r2 S2 => Q (.inl (some (vI r2))) S2))) (fun E S9 => Q (.inr E) S9))
theorem JX10_may_0 {d : Nat} {S0 : MS} {Q : Out → MS → Prop} (x0 : Nat) (x1 : Int) (S : MS) (h : VX10_may_0 d Q x0 x1 S) : Jw FinM RX10 cX10_may 2 (some .int) [] yX10_may (d + 1) S0 S 0 [(0, vA x0), (1, vI x1)] [] Q :=
  j_aload_n 0 dX10_may_0 rfl (j_iload_n 1 dX10_may_1 rfl (j_callV (rest := []) 10 [vI x1] k_RX10_248 ⟨w_5_204, p_3_1⟩ ⟨_, _, rfl⟩ (by decide) rfl rfl (Nat.le_of_ble_eq_true rfl) dX10_may_2 h (kV (fun S1 h => j_aload_n 0 dX10_may_5 rfl (j_iload_n 1 dX10_may_6 rfl (j_callV (rest := []) 10 [vI x1] k_RX10_251 ⟨w_3_137, p_1_11⟩ ⟨_, _, rfl⟩ (by decide) rfl rfl (Nat.le_of_ble_eq_true rfl) dX10_may_7 h (kI (fun r2 S2 h => j_iret rfl dX10_may_10 h)) (fun _ _ h => h.elim))))) (fun _ _ h => jx_out h)))
theorem MX10_may {d : Nat} {x0 : Nat} {x1 : Int} {S : MS} {Q : Out → MS → Prop} (h : VX10_may_0 d Q x0 x1 S) : Mw hX10_may yX10_may (d + 1) [vA x0, vI x1] S Q := Mw.ofJ (by decide) (Nat.le_of_ble_eq_true rfl) (JX10_may_0 _ _ S h)
theorem dX10_heavier_0 : decode cX10_heavier 0 = .ok (.aload_n 0, 1) := by decide +kernel
theorem dX10_heavier_1 : decode cX10_heavier 1 = .ok (.iload_n 1, 1) := by decide +kernel
theorem dX10_heavier_2 : decode cX10_heavier 2 = .ok (.iload_n 2, 1) := by decide +kernel
theorem dX10_heavier_3 : decode cX10_heavier 3 = .ok (.invokevirtual 254, 3) := by decide +kernel
theorem dX10_heavier_6 : decode cX10_heavier 6 = .ok (.istore_n 3, 1) := by decide +kernel
theorem dX10_heavier_7 : decode cX10_heavier 7 = .ok (.aload_n 0, 1) := by decide +kernel
theorem dX10_heavier_8 : decode cX10_heavier 8 = .ok (.invokevirtual 214, 3) := by decide +kernel
theorem dX10_heavier_11 : decode cX10_heavier 11 = .ok (.getfield 218, 3) := by decide +kernel
theorem dX10_heavier_14 : decode cX10_heavier 14 = .ok (.istore 4, 2) := by decide +kernel
theorem dX10_heavier_16 : decode cX10_heavier 16 = .ok (.iload 4, 2) := by decide +kernel
theorem dX10_heavier_18 : decode cX10_heavier 18 = .ok (.ifCond .eq 13, 3) := by decide +kernel
theorem dX10_heavier_21 : decode cX10_heavier 21 = .ok (.iload_n 3, 1) := by decide +kernel
theorem dX10_heavier_22 : decode cX10_heavier 22 = .ok (.ifCond .le 11, 3) := by decide +kernel
theorem dX10_heavier_25 : decode cX10_heavier 25 = .ok (.iload_n 3, 1) := by decide +kernel
theorem dX10_heavier_26 : decode cX10_heavier 26 = .ok (.iload 4, 2) := by decide +kernel
theorem dX10_heavier_28 : decode cX10_heavier 28 = .ok (.if_icmp .ge 5, 3) := by decide +kernel
theorem dX10_heavier_31 : decode cX10_heavier 31 = .ok (.iconst (-1), 1) := by decide +kernel
theorem dX10_heavier_32 : decode cX10_heavier 32 = .ok (.ireturn, 1) := by decide +kernel
theorem dX10_heavier_33 : decode cX10_heavier 33 = .ok (.iload_n 3, 1) := by decide +kernel
theorem dX10_heavier_34 : decode cX10_heavier 34 = .ok (.ifCond .ne 7, 3) := by decide +kernel
theorem dX10_heavier_37 : decode cX10_heavier 37 = .ok (.iconst 0, 1) := by decide +kernel
theorem dX10_heavier_38 : decode cX10_heavier 38 = .ok (.goto 4, 3) := by decide +kernel
theorem dX10_heavier_41 : decode cX10_heavier 41 = .ok (.iconst 1, 1) := by decide +kernel
theorem dX10_heavier_42 : decode cX10_heavier 42 = .ok (.ireturn, 1) := by decide +kernel
def VX10_heavier_33 (d : Nat) (Q : Out → MS → Prop) (x3 : Int) (S : MS) : Prop :=
  R32 x3 ∧ (¬ (x3 = 0) → Q (.inl (some (vI 1))) S) ∧ ((x3 = 0) → Q (.inl (some (vI 0))) S)
theorem JX10_heavier_33 {d : Nat} {S0 : MS} {Q : Out → MS → Prop} (x3 : Int) (S : MS) (h : VX10_heavier_33 d Q x3 S) : Jw FinM RX10 cX10_heavier 5 (some .int) [] yX10_heavier (d + 1) S0 S 33 [(3, vI x3)] [] Q :=
  j_iload_n 0 dX10_heavier_33 rfl (j_if_ne (tgt := 41) dX10_heavier_34 (by decide) h (fun h => j_iconst dX10_heavier_41 (j_iret rfl dX10_heavier_42 h)) (fun h => j_iconst dX10_heavier_37 (j_goto (tgt := 42) dX10_heavier_38 (by decide) (j_iret rfl dX10_heavier_42 h))))
def VX10_heavier_0 (d : Nat) (Q : Out → MS → Prop) (x0 : Nat) (x1 : Int) (x2 : Int) (S : MS) : Prop :=
  S.K x0 = 10 ∧ Mw hX10_rowsHeavier yX10_rowsHeavier d [vA x0, vI x1, vI x2] S (xI (fun r1 S1 => S1.K x0 = 10 ∧ Mw hX10_rowsLeft yX10_rowsLeft d [vA x0] S1 (oA (fun r2 S2 => S2.K r2 = 5 ∧ (R32 (S2.I r2 0) ∧ (((S2.I r2 0) = 0) → Q (.inl (some (vI ((-1))))) S2) ∧ (¬ ((S2.I r2 0) = 0) → R32 r1 ∧ ((r1 ≤ 0) → VX10_heavier_33 d Q r1 S2) ∧ (¬ (r1 ≤ 0) → (R32 r1 ∧ R32 (S2.I r2 0)) ∧ (((S2.I r2 0) ≤ r1) → VX10_heavier_33 d Q r1 S2) ∧ (¬ ((S2.I r2 0) ≤ r1) → Q (.inl (some (vI ((-1))))) S2))))))) (fun E S9 => Q (.inr E) S9))
theorem JX10_heavier_0 {d : Nat} {S0 : MS} {Q : Out → MS → Prop} (x0 : Nat) (x1 : Int) (x2 : Int) (S : MS) (h : VX10_heavier_0 d Q x0 x1 x2 S) : Jw FinM RX10 cX10_heavier 5 (some .int) [] yX10_heavier (d + 1) S0 S 0 [(0, vA x0), (1, vI x1), (2, vI x2)] [] Q :=
  j_aload_n 0 dX10_heavier_0 rfl (j_iload_n 1 dX10_heavier_1 rfl (j_iload_n 2 dX10_heavier_2 rfl (j_callV (rest := []) 10 [vI x1, vI x2] k_RX10_254 ⟨w_5_216, p_3_2⟩ ⟨_, _, rfl⟩ (by decide) rfl rfl (Nat.le_of_ble_eq_true rfl) dX10_heavier_3 h (kI (fun r1 S1 h => j_istore_n (lv2 := [(3, vI r1), (0, vA x0), (1, vI x1), (2, vI x2)]) dX10_heavier_6 (by decide) rfl (j_aload_n 1 dX10_heavier_7 rfl (j_callV (rest := []) 10 [] k_RX10_214 ⟨w_2_57, p_1_0⟩ ⟨_, _, rfl⟩ (by decide) rfl rfl (Nat.le_of_ble_eq_true rfl) dX10_heavier_8 h (kA (fun r2 S2 h => j_getI 5 0 f_RX10_218 dX10_heavier_11 h (fun h => j_istore (lv2 := [(4, vI (S2.I r2 0)), (3, vI r1), (0, vA x0), (1, vI x1), (2, vI x2)]) dX10_heavier_14 (by decide) rfl (j_iload 0 dX10_heavier_16 rfl (j_if_eq (tgt := 31) dX10_heavier_18 (by decide) h (fun h => j_iconst dX10_heavier_31 (j_iret rfl dX10_heavier_32 h)) (fun h => j_iload_n 1 dX10_heavier_21 rfl (j_if_le (tgt := 33) dX10_heavier_22 (by decide) h (fun h => j_sub [1] rfl (JX10_heavier_33 _ _ h)) (fun h => j_iload_n 1 dX10_heavier_25 rfl (j_iload 0 dX10_heavier_26 rfl (j_icmp_ge (tgt := 33) dX10_heavier_28 (by decide) h (fun h => j_sub [1] rfl (JX10_heavier_33 _ _ h)) (fun h => j_iconst dX10_heavier_31 (j_iret rfl dX10_heavier_32 h)))))))))))) (fun _ _ h => h.elim))))) (fun _ _ h => jx_out h))))
theorem MX10_heavier {d : Nat} {x0 : Nat} {x1 : Int} {x2 : Int} {S : MS} {Q : Out → MS → Prop} (h : VX10_heavier_0 d Q x0 x1 x2 S) : Mw hX10_heavier yX10_heavier (d + 1) [vA x0, vI x1, vI x2] S Q := Mw.ofJ (by decide) (Nat.le_of_ble_eq_true rfl) (JX10_heavier_0 _ _ _ S h)
theorem dX10_places_0 : decode cX10_places 0 = .ok (.aload_n 0, 1) := by decide +kernel
theorem dX10_places_1 : decode cX10_places 1 = .ok (.iload_n 1, 1) := by decide +kernel
theorem dX10_places_2 : decode cX10_places 2 = .ok (.invokevirtual 158, 3) := by decide +kernel
theorem dX10_places_5 : decode cX10_places 5 = .ok (.aload_n 0, 1) := by decide +kernel
theorem dX10_places_6 : decode cX10_places 6 = .ok (.invokevirtual 229, 3) := by decide +kernel
theorem dX10_places_9 : decode cX10_places 9 = .ok (.aload_n 0, 1) := by decide +kernel
theorem dX10_places_10 : decode cX10_places 10 = .ok (.invokevirtual 214, 3) := by decide +kernel
theorem dX10_places_13 : decode cX10_places 13 = .ok (.iload_n 1, 1) := by decide +kernel
theorem dX10_places_14 : decode cX10_places 14 = .ok (.invokevirtual 257, 3) := by decide +kernel
theorem dX10_places_17 : decode cX10_places 17 = .ok (.ireturn, 1) := by decide +kernel
def VX10_places_0 (d : Nat) (Q : Out → MS → Prop) (x0 : Nat) (x1 : Int) (S : MS) : Prop :=
  S.K x0 = 10 ∧ Mw hX10_needThing yX10_needThing d [vA x0, vI x1] S (xV (fun S1 => S1.K x0 = 10 ∧ Mw hX10_allRows yX10_allRows d [vA x0] S1 (oA (fun r2 S2 => S2.K x0 = 10 ∧ Mw hX10_rowsLeft yX10_rowsLeft d [vA x0] S2 (oA (fun r3 S3 => S3.K r2 = 0 ∧ Mw hX0_placesOf yX0_placesOf d [vA r2, vA r3, vI x1] S3 (oI (fun r4 S4 => Q (.inl (some (vI r4))) S4))))))) (fun E S9 => Q (.inr E) S9))
theorem JX10_places_0 {d : Nat} {S0 : MS} {Q : Out → MS → Prop} (x0 : Nat) (x1 : Int) (S : MS) (h : VX10_places_0 d Q x0 x1 S) : Jw FinM RX10 cX10_places 2 (some .int) [] yX10_places (d + 1) S0 S 0 [(0, vA x0), (1, vI x1)] [] Q :=
  j_aload_n 0 dX10_places_0 rfl (j_iload_n 1 dX10_places_1 rfl (j_callV (rest := []) 10 [vI x1] k_RX10_158 ⟨w_5_67, p_2_12⟩ ⟨_, _, rfl⟩ (by decide) rfl rfl (Nat.le_of_ble_eq_true rfl) dX10_places_2 h (kV (fun S1 h => j_aload_n 0 dX10_places_5 rfl (j_callV (rest := []) 10 [] k_RX10_229 ⟨w_2_61, p_1_1⟩ ⟨_, _, rfl⟩ (by decide) rfl rfl (Nat.le_of_ble_eq_true rfl) dX10_places_6 h (kA (fun r2 S2 h => j_aload_n 0 dX10_places_9 rfl (j_callV (rest := [vA r2]) 10 [] k_RX10_214 ⟨w_2_57, p_1_0⟩ ⟨_, _, rfl⟩ (by decide) rfl rfl (Nat.le_of_ble_eq_true rfl) dX10_places_10 h (kA (fun r3 S3 h => j_iload_n 1 dX10_places_13 rfl (j_callV (rest := []) 0 [vA r3, vI x1] k_RX10_257 ⟨w_3_176, w_3_177⟩ ⟨_, _, rfl⟩ (by decide) rfl rfl (Nat.le_of_ble_eq_true rfl) dX10_places_14 h (kI (fun r4 S4 h => j_iret rfl dX10_places_17 h)) (fun _ _ h => h.elim)))) (fun _ _ h => h.elim)))) (fun _ _ h => h.elim)))) (fun _ _ h => jx_out h)))
theorem MX10_places {d : Nat} {x0 : Nat} {x1 : Int} {S : MS} {Q : Out → MS → Prop} (h : VX10_places_0 d Q x0 x1 S) : Mw hX10_places yX10_places (d + 1) [vA x0, vI x1] S Q := Mw.ofJ (by decide) (Nat.le_of_ble_eq_true rfl) (JX10_places_0 _ _ S h)
theorem dX10_ends_0 : decode cX10_ends 0 = .ok (.iconst 0, 1) := by decide +kernel
theorem dX10_ends_1 : decode cX10_ends 1 = .ok (.istore_n 1, 1) := by decide +kernel
theorem dX10_ends_2 : decode cX10_ends 2 = .ok (.iconst 0, 1) := by decide +kernel
theorem dX10_ends_3 : decode cX10_ends 3 = .ok (.istore_n 2, 1) := by decide +kernel
theorem dX10_ends_4 : decode cX10_ends 4 = .ok (.iload_n 2, 1) := by decide +kernel
theorem dX10_ends_5 : decode cX10_ends 5 = .ok (.aload_n 0, 1) := by decide +kernel
theorem dX10_ends_6 : decode cX10_ends 6 = .ok (.getfield 24, 3) := by decide +kernel
theorem dX10_ends_9 : decode cX10_ends 9 = .ok (.getfield 261, 3) := by decide +kernel
theorem dX10_ends_12 : decode cX10_ends 12 = .ok (.if_icmp .ge 54, 3) := by decide +kernel
theorem dX10_ends_15 : decode cX10_ends 15 = .ok (.iload_n 2, 1) := by decide +kernel
theorem dX10_ends_16 : decode cX10_ends 16 = .ok (.iconst 1, 1) := by decide +kernel
theorem dX10_ends_17 : decode cX10_ends 17 = .ok (.iadd, 1) := by decide +kernel
theorem dX10_ends_18 : decode cX10_ends 18 = .ok (.istore_n 3, 1) := by decide +kernel
theorem dX10_ends_19 : decode cX10_ends 19 = .ok (.iload_n 3, 1) := by decide +kernel
theorem dX10_ends_20 : decode cX10_ends 20 = .ok (.aload_n 0, 1) := by decide +kernel
theorem dX10_ends_21 : decode cX10_ends 21 = .ok (.getfield 24, 3) := by decide +kernel
theorem dX10_ends_24 : decode cX10_ends 24 = .ok (.getfield 261, 3) := by decide +kernel
theorem dX10_ends_27 : decode cX10_ends 27 = .ok (.if_icmp .ge 33, 3) := by decide +kernel
theorem dX10_ends_30 : decode cX10_ends 30 = .ok (.iload_n 1, 1) := by decide +kernel
theorem dX10_ends_31 : decode cX10_ends 31 = .ok (.aload_n 0, 1) := by decide +kernel
theorem dX10_ends_32 : decode cX10_ends 32 = .ok (.invokevirtual 229, 3) := by decide +kernel
theorem dX10_ends_35 : decode cX10_ends 35 = .ok (.aload_n 0, 1) := by decide +kernel
theorem dX10_ends_36 : decode cX10_ends 36 = .ok (.invokevirtual 214, 3) := by decide +kernel
theorem dX10_ends_39 : decode cX10_ends 39 = .ok (.iload_n 2, 1) := by decide +kernel
theorem dX10_ends_40 : decode cX10_ends 40 = .ok (.iload_n 3, 1) := by decide +kernel
theorem dX10_ends_41 : decode cX10_ends 41 = .ok (.invokevirtual 264, 3) := by decide +kernel
theorem dX10_ends_44 : decode cX10_ends 44 = .ok (.ifCond .eq 7, 3) := by decide +kernel
theorem dX10_ends_47 : decode cX10_ends 47 = .ok (.iconst 1, 1) := by decide +kernel
theorem dX10_ends_48 : decode cX10_ends 48 = .ok (.goto 4, 3) := by decide +kernel
theorem dX10_ends_51 : decode cX10_ends 51 = .ok (.iconst 0, 1) := by decide +kernel
theorem dX10_ends_52 : decode cX10_ends 52 = .ok (.iadd, 1) := by decide +kernel
theorem dX10_ends_53 : decode cX10_ends 53 = .ok (.istore_n 1, 1) := by decide +kernel
theorem dX10_ends_54 : decode cX10_ends 54 = .ok (.iinc 3 1, 3) := by decide +kernel
theorem dX10_ends_57 : decode cX10_ends 57 = .ok (.goto (-38), 3) := by decide +kernel
theorem dX10_ends_60 : decode cX10_ends 60 = .ok (.iinc 2 1, 3) := by decide +kernel
theorem dX10_ends_63 : decode cX10_ends 63 = .ok (.goto (-59), 3) := by decide +kernel
theorem dX10_ends_66 : decode cX10_ends 66 = .ok (.iload_n 1, 1) := by decide +kernel
theorem dX10_ends_67 : decode cX10_ends 67 = .ok (.ireturn, 1) := by decide +kernel
def VX10_ends_52 (d : Nat) (c4 : Nat → Int → Int → MS → Prop) (c19 : Nat → Int → Int → Int → MS → Prop) (Q : Out → MS → Prop) (x0 : Nat) (x2 : Int) (x3 : Int) (t0 : Int) (t1 : Int) (S : MS) : Prop :=
  c19 x0 (t1 + t0) x2 (x3 + 1) S
theorem JX10_ends_52 {d : Nat} {c4 : Nat → Int → Int → MS → Prop} {c19 : Nat → Int → Int → Int → MS → Prop} {S0 : MS} {Q : Out → MS → Prop} (hc4 : ∀ (x0 : Nat) (x1 : Int) (x2 : Int) (S : MS), c4 x0 x1 x2 S → Jw FinM RX10 cX10_ends 4 (some .int) [] yX10_ends (d + 1) S0 S 4 [(0, vA x0), (1, vI x1), (2, vI x2)] [] Q) (hc19 : ∀ (x0 : Nat) (x1 : Int) (x2 : Int) (x3 : Int) (S : MS), c19 x0 x1 x2 x3 S → Jw FinM RX10 cX10_ends 4 (some .int) [] yX10_ends (d + 1) S0 S 19 [(0, vA x0), (1, vI x1), (2, vI x2), (3, vI x3)] [] Q) (x0 : Nat) (x2 : Int) (x3 : Int) (t0 : Int) (t1 : Int) (S : MS) (h : VX10_ends_52 d c4 c19 Q x0 x2 x3 t0 t1 S) : Jw FinM RX10 cX10_ends 4 (some .int) [] yX10_ends (d + 1) S0 S 52 [(0, vA x0), (2, vI x2), (3, vI x3)] [vI t0, vI t1] Q :=
  j_iadd dX10_ends_52 (j_istore_n (lv2 := [(1, vI (t1 + t0)), (0, vA x0), (2, vI x2), (3, vI x3)]) dX10_ends_53 (by decide) rfl (j_iinc 3 (lv2 := [(3, vI (x3 + 1)), (1, vI (t1 + t0)), (0, vA x0), (2, vI x2)]) dX10_ends_54 rfl (by decide) rfl (j_goto (tgt := 19) dX10_ends_57 (by decide) (j_sub [2, 1, 3, 0] rfl (hc19 _ _ _ _ _ h)))))
def VX10_ends_19 (d : Nat) (c4 : Nat → Int → Int → MS → Prop) (Q : Out → MS → Prop) : Nat → Nat → Int → Int → Int → MS → Prop
  | 0, _, _, _, _, _ => False
  | n + 1, x0, x1, x2, x3, S => S.K x0 = 10 ∧ ∃ b1, S.R x0 2 = some b1 ∧ (S.K b1 = 7 ∧ ((R32 x3 ∧ R32 (S.I b1 7)) ∧ (((S.I b1 7) ≤ x3) → c4 x0 x1 (x2 + 1) S) ∧ (¬ ((S.I b1 7) ≤ x3) → S.K x0 = 10 ∧ Mw hX10_allRows yX10_allRows d [vA x0] S (oA (fun r2 S2 => S2.K x0 = 10 ∧ Mw hX10_rowsLeft yX10_rowsLeft d [vA x0] S2 (oA (fun r3 S3 => S3.K r2 = 0 ∧ Mw hX0_mayEnd yX0_mayEnd d [vA r2, vA r3, vI x2, vI x3] S3 (oI (fun r4 S4 => R32 r4 ∧ ((r4 = 0) → VX10_ends_52 d c4 (VX10_ends_19 d c4 Q n) Q x0 x2 x3 0 x1 S4) ∧ (¬ (r4 = 0) → VX10_ends_52 d c4 (VX10_ends_19 d c4 Q n) Q x0 x2 x3 1 x1 S4))))))))))
theorem JX10_ends_19 {d : Nat} {c4 : Nat → Int → Int → MS → Prop} {S0 : MS} {Q : Out → MS → Prop} (hc4 : ∀ (x0 : Nat) (x1 : Int) (x2 : Int) (S : MS), c4 x0 x1 x2 S → Jw FinM RX10 cX10_ends 4 (some .int) [] yX10_ends (d + 1) S0 S 4 [(0, vA x0), (1, vI x1), (2, vI x2)] [] Q) : ∀ (n : Nat) (x0 : Nat) (x1 : Int) (x2 : Int) (x3 : Int) (S : MS), VX10_ends_19 d c4 Q n x0 x1 x2 x3 S → Jw FinM RX10 cX10_ends 4 (some .int) [] yX10_ends (d + 1) S0 S 19 [(0, vA x0), (1, vI x1), (2, vI x2), (3, vI x3)] [] Q := by
  intro n
  induction n with
  | zero => intro x0 x1 x2 x3 S h; exact h.elim
  | succ n ih =>
    intro x0 x1 x2 x3 S h
    exact j_iload_n 3 dX10_ends_19 rfl (j_aload_n 0 dX10_ends_20 rfl (j_getR 10 2 f_RX10_24 dX10_ends_21 h (fun b1 h => j_getI 7 7 f_RX10_261 dX10_ends_24 h (fun h => j_icmp_ge (tgt := 60) dX10_ends_27 (by decide) h (fun h => j_iinc 2 (lv2 := [(2, vI (x2 + 1)), (0, vA x0), (1, vI x1), (3, vI x3)]) dX10_ends_60 rfl (by decide) rfl (j_goto (tgt := 4) dX10_ends_63 (by decide) (j_sub [1, 2, 0] rfl (hc4 _ _ _ _ h)))) (fun h => j_iload_n 1 dX10_ends_30 rfl (j_aload_n 0 dX10_ends_31 rfl (j_callV (rest := [vI x1]) 10 [] k_RX10_229 ⟨w_2_61, p_1_1⟩ ⟨_, _, rfl⟩ (by decide) rfl rfl (Nat.le_of_ble_eq_true rfl) dX10_ends_32 h (kA (fun r2 S2 h => j_aload_n 0 dX10_ends_35 rfl (j_callV (rest := [vA r2, vI x1]) 10 [] k_RX10_214 ⟨w_2_57, p_1_0⟩ ⟨_, _, rfl⟩ (by decide) rfl rfl (Nat.le_of_ble_eq_true rfl) dX10_ends_36 h (kA (fun r3 S3 h => j_iload_n 2 dX10_ends_39 rfl (j_iload_n 3 dX10_ends_40 rfl (j_callV (rest := [vI x1]) 0 [vA r3, vI x2, vI x3] k_RX10_264 ⟨w_3_25, w_3_26⟩ ⟨_, _, rfl⟩ (by decide) rfl rfl (Nat.le_of_ble_eq_true rfl) dX10_ends_41 h (kI (fun r4 S4 h => j_if_eq (tgt := 51) dX10_ends_44 (by decide) h (fun h => j_iconst dX10_ends_51 (j_sub [0, 2, 3] rfl (JX10_ends_52 hc4 ih _ _ _ _ _ _ h))) (fun h => j_iconst dX10_ends_47 (j_goto (tgt := 52) dX10_ends_48 (by decide) (j_sub [0, 2, 3] rfl (JX10_ends_52 hc4 ih _ _ _ _ _ _ h)))))) (fun _ _ h => h.elim))))) (fun _ _ h => h.elim)))) (fun _ _ h => h.elim))))))))
def VX10_ends_4 (d : Nat) (Q : Out → MS → Prop) : Nat → Nat → Int → Int → MS → Prop
  | 0, _, _, _, _ => False
  | n + 1, x0, x1, x2, S => S.K x0 = 10 ∧ ∃ b1, S.R x0 2 = some b1 ∧ (S.K b1 = 7 ∧ ((R32 x2 ∧ R32 (S.I b1 7)) ∧ (((S.I b1 7) ≤ x2) → Q (.inl (some (vI x1))) S) ∧ (¬ ((S.I b1 7) ≤ x2) → ∃ m, VX10_ends_19 d (VX10_ends_4 d Q n) Q m x0 x1 x2 (x2 + 1) S)))
theorem JX10_ends_4 {d : Nat} {S0 : MS} {Q : Out → MS → Prop} : ∀ (n : Nat) (x0 : Nat) (x1 : Int) (x2 : Int) (S : MS), VX10_ends_4 d Q n x0 x1 x2 S → Jw FinM RX10 cX10_ends 4 (some .int) [] yX10_ends (d + 1) S0 S 4 [(0, vA x0), (1, vI x1), (2, vI x2)] [] Q := by
  intro n
  induction n with
  | zero => intro x0 x1 x2 S h; exact h.elim
  | succ n ih =>
    intro x0 x1 x2 S h
    exact j_iload_n 2 dX10_ends_4 rfl (j_aload_n 0 dX10_ends_5 rfl (j_getR 10 2 f_RX10_24 dX10_ends_6 h (fun b1 h => j_getI 7 7 f_RX10_261 dX10_ends_9 h (fun h => j_icmp_ge (tgt := 66) dX10_ends_12 (by decide) h (fun h => j_iload_n 1 dX10_ends_66 rfl (j_iret rfl dX10_ends_67 h)) (fun h => j_iload_n 2 dX10_ends_15 rfl (j_iconst dX10_ends_16 (j_iadd dX10_ends_17 (j_istore_n (lv2 := [(3, vI (x2 + 1)), (0, vA x0), (1, vI x1), (2, vI x2)]) dX10_ends_18 (by decide) rfl (Exists.elim h (fun m h => j_sub [1, 2, 3, 0] rfl (JX10_ends_19 ih m _ _ _ _ _ h)))))))))))
def VX10_ends_0 (d : Nat) (Q : Out → MS → Prop) (x0 : Nat) (S : MS) : Prop :=
  ∃ m, VX10_ends_4 d Q m x0 0 0 S
theorem JX10_ends_0 {d : Nat} {S0 : MS} {Q : Out → MS → Prop} (x0 : Nat) (S : MS) (h : VX10_ends_0 d Q x0 S) : Jw FinM RX10 cX10_ends 4 (some .int) [] yX10_ends (d + 1) S0 S 0 [(0, vA x0)] [] Q :=
  j_iconst dX10_ends_0 (j_istore_n (lv2 := [(1, vI 0), (0, vA x0)]) dX10_ends_1 (by decide) rfl (j_iconst dX10_ends_2 (j_istore_n (lv2 := [(2, vI 0), (1, vI 0), (0, vA x0)]) dX10_ends_3 (by decide) rfl (Exists.elim h (fun m h => j_sub [2, 1, 0] rfl (JX10_ends_4 m _ _ _ _ h))))))
theorem MX10_ends {d : Nat} {x0 : Nat} {S : MS} {Q : Out → MS → Prop} (h : VX10_ends_0 d Q x0 S) : Mw hX10_ends yX10_ends (d + 1) [vA x0] S Q := Mw.ofJ (by decide) (Nat.le_of_ble_eq_true rfl) (JX10_ends_0 _ S h)
theorem dX10_goose_0 : decode cX10_goose 0 = .ok (.aload_n 0, 1) := by decide +kernel
theorem dX10_goose_1 : decode cX10_goose 1 = .ok (.invokevirtual 214, 3) := by decide +kernel
theorem dX10_goose_4 : decode cX10_goose 4 = .ok (.getfield 218, 3) := by decide +kernel
theorem dX10_goose_7 : decode cX10_goose 7 = .ok (.istore_n 1, 1) := by decide +kernel
theorem dX10_goose_8 : decode cX10_goose 8 = .ok (.iconst 0, 1) := by decide +kernel
theorem dX10_goose_9 : decode cX10_goose 9 = .ok (.istore_n 2, 1) := by decide +kernel
theorem dX10_goose_10 : decode cX10_goose 10 = .ok (.iconst 0, 1) := by decide +kernel
theorem dX10_goose_11 : decode cX10_goose 11 = .ok (.istore_n 3, 1) := by decide +kernel
theorem dX10_goose_12 : decode cX10_goose 12 = .ok (.iload_n 1, 1) := by decide +kernel
theorem dX10_goose_13 : decode cX10_goose 13 = .ok (.ifCond .le 39, 3) := by decide +kernel
theorem dX10_goose_16 : decode cX10_goose 16 = .ok (.iload_n 3, 1) := by decide +kernel
theorem dX10_goose_17 : decode cX10_goose 17 = .ok (.aload_n 0, 1) := by decide +kernel
theorem dX10_goose_18 : decode cX10_goose 18 = .ok (.getfield 24, 3) := by decide +kernel
theorem dX10_goose_21 : decode cX10_goose 21 = .ok (.getfield 261, 3) := by decide +kernel
theorem dX10_goose_24 : decode cX10_goose 24 = .ok (.if_icmp .ge 28, 3) := by decide +kernel
theorem dX10_goose_27 : decode cX10_goose 27 = .ok (.iload_n 2, 1) := by decide +kernel
theorem dX10_goose_28 : decode cX10_goose 28 = .ok (.aload_n 0, 1) := by decide +kernel
theorem dX10_goose_29 : decode cX10_goose 29 = .ok (.iload_n 3, 1) := by decide +kernel
theorem dX10_goose_30 : decode cX10_goose 30 = .ok (.invokevirtual 268, 3) := by decide +kernel
theorem dX10_goose_33 : decode cX10_goose 33 = .ok (.iload_n 1, 1) := by decide +kernel
theorem dX10_goose_34 : decode cX10_goose 34 = .ok (.if_icmp .ne 9, 3) := by decide +kernel
theorem dX10_goose_37 : decode cX10_goose 37 = .ok (.iconst 1, 1) := by decide +kernel
theorem dX10_goose_38 : decode cX10_goose 38 = .ok (.iload_n 3, 1) := by decide +kernel
theorem dX10_goose_39 : decode cX10_goose 39 = .ok (.ishl, 1) := by decide +kernel
theorem dX10_goose_40 : decode cX10_goose 40 = .ok (.goto 4, 3) := by decide +kernel
theorem dX10_goose_43 : decode cX10_goose 43 = .ok (.iconst 0, 1) := by decide +kernel
theorem dX10_goose_44 : decode cX10_goose 44 = .ok (.ior, 1) := by decide +kernel
theorem dX10_goose_45 : decode cX10_goose 45 = .ok (.istore_n 2, 1) := by decide +kernel
theorem dX10_goose_46 : decode cX10_goose 46 = .ok (.iinc 3 1, 3) := by decide +kernel
theorem dX10_goose_49 : decode cX10_goose 49 = .ok (.goto (-37), 3) := by decide +kernel
theorem dX10_goose_52 : decode cX10_goose 52 = .ok (.iload_n 2, 1) := by decide +kernel
theorem dX10_goose_53 : decode cX10_goose 53 = .ok (.ireturn, 1) := by decide +kernel
def VX10_goose_44 (d : Nat) (c12 : Nat → Int → Int → Int → MS → Prop) (Q : Out → MS → Prop) (x0 : Nat) (x1 : Int) (x3 : Int) (t0 : Int) (t1 : Int) (S : MS) : Prop :=
  c12 x0 x1 (iOr t1 t0) (x3 + 1) S
theorem JX10_goose_44 {d : Nat} {c12 : Nat → Int → Int → Int → MS → Prop} {S0 : MS} {Q : Out → MS → Prop} (hc12 : ∀ (x0 : Nat) (x1 : Int) (x2 : Int) (x3 : Int) (S : MS), c12 x0 x1 x2 x3 S → Jw FinM RX10 cX10_goose 4 (some .int) [] yX10_goose (d + 1) S0 S 12 [(0, vA x0), (1, vI x1), (2, vI x2), (3, vI x3)] [] Q) (x0 : Nat) (x1 : Int) (x3 : Int) (t0 : Int) (t1 : Int) (S : MS) (h : VX10_goose_44 d c12 Q x0 x1 x3 t0 t1 S) : Jw FinM RX10 cX10_goose 4 (some .int) [] yX10_goose (d + 1) S0 S 44 [(0, vA x0), (1, vI x1), (3, vI x3)] [vI t0, vI t1] Q :=
  j_ior dX10_goose_44 (j_istore_n (lv2 := [(2, vI (iOr t1 t0)), (0, vA x0), (1, vI x1), (3, vI x3)]) dX10_goose_45 (by decide) rfl (j_iinc 3 (lv2 := [(3, vI (x3 + 1)), (2, vI (iOr t1 t0)), (0, vA x0), (1, vI x1)]) dX10_goose_46 rfl (by decide) rfl (j_goto (tgt := 12) dX10_goose_49 (by decide) (j_sub [2, 3, 1, 0] rfl (hc12 _ _ _ _ _ h)))))
def VX10_goose_52 (d : Nat) (Q : Out → MS → Prop) (x2 : Int) (S : MS) : Prop :=
  Q (.inl (some (vI x2))) S
theorem JX10_goose_52 {d : Nat} {S0 : MS} {Q : Out → MS → Prop} (x2 : Int) (S : MS) (h : VX10_goose_52 d Q x2 S) : Jw FinM RX10 cX10_goose 4 (some .int) [] yX10_goose (d + 1) S0 S 52 [(2, vI x2)] [] Q :=
  j_iload_n 0 dX10_goose_52 rfl (j_iret rfl dX10_goose_53 h)
def VX10_goose_12 (d : Nat) (Q : Out → MS → Prop) : Nat → Nat → Int → Int → Int → MS → Prop
  | 0, _, _, _, _, _ => False
  | n + 1, x0, x1, x2, x3, S => R32 x1 ∧ ((x1 ≤ 0) → VX10_goose_52 d Q x2 S) ∧ (¬ (x1 ≤ 0) → S.K x0 = 10 ∧ ∃ b1, S.R x0 2 = some b1 ∧ (S.K b1 = 7 ∧ ((R32 x3 ∧ R32 (S.I b1 7)) ∧ (((S.I b1 7) ≤ x3) → VX10_goose_52 d Q x2 S) ∧ (¬ ((S.I b1 7) ≤ x3) → S.K x0 = 10 ∧ Mw hX10_rowsAtEnd yX10_rowsAtEnd d [vA x0, vI x3] S (oI (fun r2 S2 => (R32 r2 ∧ R32 x1) ∧ (¬ (r2 = x1) → VX10_goose_44 d (VX10_goose_12 d Q n) Q x0 x1 x3 0 x2 S2) ∧ ((r2 = x1) → VX10_goose_44 d (VX10_goose_12 d Q n) Q x0 x1 x3 (iShl 1 x3) x2 S2)))))))
theorem JX10_goose_12 {d : Nat} {S0 : MS} {Q : Out → MS → Prop} : ∀ (n : Nat) (x0 : Nat) (x1 : Int) (x2 : Int) (x3 : Int) (S : MS), VX10_goose_12 d Q n x0 x1 x2 x3 S → Jw FinM RX10 cX10_goose 4 (some .int) [] yX10_goose (d + 1) S0 S 12 [(0, vA x0), (1, vI x1), (2, vI x2), (3, vI x3)] [] Q := by
  intro n
  induction n with
  | zero => intro x0 x1 x2 x3 S h; exact h.elim
  | succ n ih =>
    intro x0 x1 x2 x3 S h
    exact j_iload_n 1 dX10_goose_12 rfl (j_if_le (tgt := 52) dX10_goose_13 (by decide) h (fun h => j_sub [2] rfl (JX10_goose_52 _ _ h)) (fun h => j_iload_n 3 dX10_goose_16 rfl (j_aload_n 0 dX10_goose_17 rfl (j_getR 10 2 f_RX10_24 dX10_goose_18 h (fun b1 h => j_getI 7 7 f_RX10_261 dX10_goose_21 h (fun h => j_icmp_ge (tgt := 52) dX10_goose_24 (by decide) h (fun h => j_sub [2] rfl (JX10_goose_52 _ _ h)) (fun h => j_iload_n 2 dX10_goose_27 rfl (j_aload_n 0 dX10_goose_28 rfl (j_iload_n 3 dX10_goose_29 rfl (j_callV (rest := [vI x2]) 10 [vI x3] k_RX10_268 ⟨w_3_42, p_1_8⟩ ⟨_, _, rfl⟩ (by decide) rfl rfl (Nat.le_of_ble_eq_true rfl) dX10_goose_30 h (kI (fun r2 S2 h => j_iload_n 1 dX10_goose_33 rfl (j_icmp_ne (tgt := 43) dX10_goose_34 (by decide) h (fun h => j_iconst dX10_goose_43 (j_sub [0, 1, 3] rfl (JX10_goose_44 ih _ _ _ _ _ _ h))) (fun h => j_iconst dX10_goose_37 (j_iload_n 3 dX10_goose_38 rfl (j_ishl dX10_goose_39 (j_goto (tgt := 44) dX10_goose_40 (by decide) (j_sub [0, 1, 3] rfl (JX10_goose_44 ih _ _ _ _ _ _ h))))))))) (fun _ _ h => h.elim)))))))))))
def VX10_goose_0 (d : Nat) (Q : Out → MS → Prop) (x0 : Nat) (S : MS) : Prop :=
  S.K x0 = 10 ∧ Mw hX10_rowsLeft yX10_rowsLeft d [vA x0] S (oA (fun r1 S1 => S1.K r1 = 5 ∧ (∃ m, VX10_goose_12 d Q m x0 (S1.I r1 0) 0 0 S1)))
theorem JX10_goose_0 {d : Nat} {S0 : MS} {Q : Out → MS → Prop} (x0 : Nat) (S : MS) (h : VX10_goose_0 d Q x0 S) : Jw FinM RX10 cX10_goose 4 (some .int) [] yX10_goose (d + 1) S0 S 0 [(0, vA x0)] [] Q :=
  j_aload_n 0 dX10_goose_0 rfl (j_callV (rest := []) 10 [] k_RX10_214 ⟨w_2_57, p_1_0⟩ ⟨_, _, rfl⟩ (by decide) rfl rfl (Nat.le_of_ble_eq_true rfl) dX10_goose_1 h (kA (fun r1 S1 h => j_getI 5 0 f_RX10_218 dX10_goose_4 h (fun h => j_istore_n (lv2 := [(1, vI (S1.I r1 0)), (0, vA x0)]) dX10_goose_7 (by decide) rfl (j_iconst dX10_goose_8 (j_istore_n (lv2 := [(2, vI 0), (1, vI (S1.I r1 0)), (0, vA x0)]) dX10_goose_9 (by decide) rfl (j_iconst dX10_goose_10 (j_istore_n (lv2 := [(3, vI 0), (2, vI 0), (1, vI (S1.I r1 0)), (0, vA x0)]) dX10_goose_11 (by decide) rfl (Exists.elim h (fun m h => j_sub [3, 2, 1, 0] rfl (JX10_goose_12 m _ _ _ _ _ h)))))))))) (fun _ _ h => h.elim))
theorem MX10_goose {d : Nat} {x0 : Nat} {S : MS} {Q : Out → MS → Prop} (h : VX10_goose_0 d Q x0 S) : Mw hX10_goose yX10_goose (d + 1) [vA x0] S Q := Mw.ofJ (by decide) (Nat.le_of_ble_eq_true rfl) (JX10_goose_0 _ S h)
theorem dX10_centre_0 : decode cX10_centre 0 = .ok (.iconst 0, 1) := by decide +kernel
theorem dX10_centre_1 : decode cX10_centre 1 = .ok (.istore_n 1, 1) := by decide +kernel
theorem dX10_centre_2 : decode cX10_centre 2 = .ok (.iconst 0, 1) := by decide +kernel
theorem dX10_centre_3 : decode cX10_centre 3 = .ok (.istore_n 2, 1) := by decide +kernel
theorem dX10_centre_4 : decode cX10_centre 4 = .ok (.iload_n 2, 1) := by decide +kernel
theorem dX10_centre_5 : decode cX10_centre 5 = .ok (.aload_n 0, 1) := by decide +kernel
theorem dX10_centre_6 : decode cX10_centre 6 = .ok (.getfield 24, 3) := by decide +kernel
theorem dX10_centre_9 : decode cX10_centre 9 = .ok (.getfield 261, 3) := by decide +kernel
theorem dX10_centre_12 : decode cX10_centre 12 = .ok (.if_icmp .ge 46, 3) := by decide +kernel
theorem dX10_centre_15 : decode cX10_centre 15 = .ok (.iload_n 1, 1) := by decide +kernel
theorem dX10_centre_16 : decode cX10_centre 16 = .ok (.aload_n 0, 1) := by decide +kernel
theorem dX10_centre_17 : decode cX10_centre 17 = .ok (.invokevirtual 214, 3) := by decide +kernel
theorem dX10_centre_20 : decode cX10_centre 20 = .ok (.aload_n 0, 1) := by decide +kernel
theorem dX10_centre_21 : decode cX10_centre 21 = .ok (.invokevirtual 229, 3) := by decide +kernel
theorem dX10_centre_24 : decode cX10_centre 24 = .ok (.iload_n 2, 1) := by decide +kernel
theorem dX10_centre_25 : decode cX10_centre 25 = .ok (.aload_n 0, 1) := by decide +kernel
theorem dX10_centre_26 : decode cX10_centre 26 = .ok (.getfield 24, 3) := by decide +kernel
theorem dX10_centre_29 : decode cX10_centre 29 = .ok (.getfield 261, 3) := by decide +kernel
theorem dX10_centre_32 : decode cX10_centre 32 = .ok (.iconst 2, 1) := by decide +kernel
theorem dX10_centre_33 : decode cX10_centre 33 = .ok (.idiv, 1) := by decide +kernel
theorem dX10_centre_34 : decode cX10_centre 34 = .ok (.invokevirtual 271, 3) := by decide +kernel
theorem dX10_centre_37 : decode cX10_centre 37 = .ok (.invokevirtual 275, 3) := by decide +kernel
theorem dX10_centre_40 : decode cX10_centre 40 = .ok (.ifCond .eq 9, 3) := by decide +kernel
theorem dX10_centre_43 : decode cX10_centre 43 = .ok (.iconst 1, 1) := by decide +kernel
theorem dX10_centre_44 : decode cX10_centre 44 = .ok (.iload_n 2, 1) := by decide +kernel
theorem dX10_centre_45 : decode cX10_centre 45 = .ok (.ishl, 1) := by decide +kernel
theorem dX10_centre_46 : decode cX10_centre 46 = .ok (.goto 4, 3) := by decide +kernel
theorem dX10_centre_49 : decode cX10_centre 49 = .ok (.iconst 0, 1) := by decide +kernel
theorem dX10_centre_50 : decode cX10_centre 50 = .ok (.ior, 1) := by decide +kernel
theorem dX10_centre_51 : decode cX10_centre 51 = .ok (.istore_n 1, 1) := by decide +kernel
theorem dX10_centre_52 : decode cX10_centre 52 = .ok (.iinc 2 1, 3) := by decide +kernel
theorem dX10_centre_55 : decode cX10_centre 55 = .ok (.goto (-51), 3) := by decide +kernel
theorem dX10_centre_58 : decode cX10_centre 58 = .ok (.iload_n 1, 1) := by decide +kernel
theorem dX10_centre_59 : decode cX10_centre 59 = .ok (.ireturn, 1) := by decide +kernel
def VX10_centre_50 (d : Nat) (c4 : Nat → Int → Int → MS → Prop) (Q : Out → MS → Prop) (x0 : Nat) (x2 : Int) (t0 : Int) (t1 : Int) (S : MS) : Prop :=
  c4 x0 (iOr t1 t0) (x2 + 1) S
theorem JX10_centre_50 {d : Nat} {c4 : Nat → Int → Int → MS → Prop} {S0 : MS} {Q : Out → MS → Prop} (hc4 : ∀ (x0 : Nat) (x1 : Int) (x2 : Int) (S : MS), c4 x0 x1 x2 S → Jw FinM RX10 cX10_centre 3 (some .int) [] yX10_centre (d + 1) S0 S 4 [(0, vA x0), (1, vI x1), (2, vI x2)] [] Q) (x0 : Nat) (x2 : Int) (t0 : Int) (t1 : Int) (S : MS) (h : VX10_centre_50 d c4 Q x0 x2 t0 t1 S) : Jw FinM RX10 cX10_centre 3 (some .int) [] yX10_centre (d + 1) S0 S 50 [(0, vA x0), (2, vI x2)] [vI t0, vI t1] Q :=
  j_ior dX10_centre_50 (j_istore_n (lv2 := [(1, vI (iOr t1 t0)), (0, vA x0), (2, vI x2)]) dX10_centre_51 (by decide) rfl (j_iinc 2 (lv2 := [(2, vI (x2 + 1)), (1, vI (iOr t1 t0)), (0, vA x0)]) dX10_centre_52 rfl (by decide) rfl (j_goto (tgt := 4) dX10_centre_55 (by decide) (j_sub [2, 1, 0] rfl (hc4 _ _ _ _ h)))))
def VX10_centre_4 (d : Nat) (Q : Out → MS → Prop) : Nat → Nat → Int → Int → MS → Prop
  | 0, _, _, _, _ => False
  | n + 1, x0, x1, x2, S => S.K x0 = 10 ∧ ∃ b1, S.R x0 2 = some b1 ∧ (S.K b1 = 7 ∧ ((R32 x2 ∧ R32 (S.I b1 7)) ∧ (((S.I b1 7) ≤ x2) → Q (.inl (some (vI x1))) S) ∧ (¬ ((S.I b1 7) ≤ x2) → S.K x0 = 10 ∧ Mw hX10_rowsLeft yX10_rowsLeft d [vA x0] S (oA (fun r2 S2 => S2.K x0 = 10 ∧ Mw hX10_allRows yX10_allRows d [vA x0] S2 (oA (fun r3 S3 => S3.K x0 = 10 ∧ ∃ b4, S3.R x0 2 = some b4 ∧ (S3.K b4 = 7 ∧ ((R32 (2 : Int) ∧ (2 : Int) ≠ 0) ∧ (S3.K r3 = 0 ∧ Mw hX0_standing yX0_standing d [vA r3, vI x2, vI (iDiv (S3.I b4 7) 2)] S3 (oA (fun r5 S5 => S5.K r2 = 5 ∧ Mw hX5_meets yX5_meets d [vA r2, vA r5] S5 (oI (fun r6 S6 => R32 r6 ∧ ((r6 = 0) → VX10_centre_50 d (VX10_centre_4 d Q n) Q x0 x2 0 x1 S6) ∧ (¬ (r6 = 0) → VX10_centre_50 d (VX10_centre_4 d Q n) Q x0 x2 (iShl 1 x2) x1 S6)))))))))))))))
theorem JX10_centre_4 {d : Nat} {S0 : MS} {Q : Out → MS → Prop} : ∀ (n : Nat) (x0 : Nat) (x1 : Int) (x2 : Int) (S : MS), VX10_centre_4 d Q n x0 x1 x2 S → Jw FinM RX10 cX10_centre 3 (some .int) [] yX10_centre (d + 1) S0 S 4 [(0, vA x0), (1, vI x1), (2, vI x2)] [] Q := by
  intro n
  induction n with
  | zero => intro x0 x1 x2 S h; exact h.elim
  | succ n ih =>
    intro x0 x1 x2 S h
    exact j_iload_n 2 dX10_centre_4 rfl (j_aload_n 0 dX10_centre_5 rfl (j_getR 10 2 f_RX10_24 dX10_centre_6 h (fun b1 h => j_getI 7 7 f_RX10_261 dX10_centre_9 h (fun h => j_icmp_ge (tgt := 58) dX10_centre_12 (by decide) h (fun h => j_iload_n 1 dX10_centre_58 rfl (j_iret rfl dX10_centre_59 h)) (fun h => j_iload_n 1 dX10_centre_15 rfl (j_aload_n 0 dX10_centre_16 rfl (j_callV (rest := [vI x1]) 10 [] k_RX10_214 ⟨w_2_57, p_1_0⟩ ⟨_, _, rfl⟩ (by decide) rfl rfl (Nat.le_of_ble_eq_true rfl) dX10_centre_17 h (kA (fun r2 S2 h => j_aload_n 0 dX10_centre_20 rfl (j_callV (rest := [vA r2, vI x1]) 10 [] k_RX10_229 ⟨w_2_61, p_1_1⟩ ⟨_, _, rfl⟩ (by decide) rfl rfl (Nat.le_of_ble_eq_true rfl) dX10_centre_21 h (kA (fun r3 S3 h => j_iload_n 2 dX10_centre_24 rfl (j_aload_n 0 dX10_centre_25 rfl (j_getR 10 2 f_RX10_24 dX10_centre_26 h (fun b4 h => j_getI 7 7 f_RX10_261 dX10_centre_29 h (fun h => j_iconst dX10_centre_32 (j_idiv dX10_centre_33 h (fun h => j_callV (rest := [vA r2, vI x1]) 0 [vI x2, vI (iDiv (S3.I b4 7) 2)] k_RX10_271 ⟨w_3_29, w_3_30⟩ ⟨_, _, rfl⟩ (by decide) rfl rfl (Nat.le_of_ble_eq_true rfl) dX10_centre_34 h (kA (fun r5 S5 h => j_callV (rest := [vI x1]) 5 [vA r5] k_RX10_275 ⟨w_3_54, w_3_55⟩ ⟨_, _, rfl⟩ (by decide) rfl rfl (Nat.le_of_ble_eq_true rfl) dX10_centre_37 h (kI (fun r6 S6 h => j_if_eq (tgt := 49) dX10_centre_40 (by decide) h (fun h => j_iconst dX10_centre_49 (j_sub [0, 2] rfl (JX10_centre_50 ih _ _ _ _ _ h))) (fun h => j_iconst dX10_centre_43 (j_iload_n 2 dX10_centre_44 rfl (j_ishl dX10_centre_45 (j_goto (tgt := 50) dX10_centre_46 (by decide) (j_sub [0, 2] rfl (JX10_centre_50 ih _ _ _ _ _ h)))))))) (fun _ _ h => h.elim))) (fun _ _ h => h.elim))))))))) (fun _ _ h => h.elim)))) (fun _ _ h => h.elim))))))))
def VX10_centre_0 (d : Nat) (Q : Out → MS → Prop) (x0 : Nat) (S : MS) : Prop :=
  ∃ m, VX10_centre_4 d Q m x0 0 0 S
theorem JX10_centre_0 {d : Nat} {S0 : MS} {Q : Out → MS → Prop} (x0 : Nat) (S : MS) (h : VX10_centre_0 d Q x0 S) : Jw FinM RX10 cX10_centre 3 (some .int) [] yX10_centre (d + 1) S0 S 0 [(0, vA x0)] [] Q :=
  j_iconst dX10_centre_0 (j_istore_n (lv2 := [(1, vI 0), (0, vA x0)]) dX10_centre_1 (by decide) rfl (j_iconst dX10_centre_2 (j_istore_n (lv2 := [(2, vI 0), (1, vI 0), (0, vA x0)]) dX10_centre_3 (by decide) rfl (Exists.elim h (fun m h => j_sub [2, 1, 0] rfl (JX10_centre_4 m _ _ _ _ h))))))
theorem MX10_centre {d : Nat} {x0 : Nat} {S : MS} {Q : Out → MS → Prop} (h : VX10_centre_0 d Q x0 S) : Mw hX10_centre yX10_centre (d + 1) [vA x0] S Q := Mw.ofJ (by decide) (Nat.le_of_ble_eq_true rfl) (JX10_centre_0 _ S h)
theorem dX10_known_0 : decode cX10_known 0 = .ok (.aload_n 0, 1) := by decide +kernel
theorem dX10_known_1 : decode cX10_known 1 = .ok (.invokevirtual 229, 3) := by decide +kernel
theorem dX10_known_4 : decode cX10_known 4 = .ok (.aload_n 0, 1) := by decide +kernel
theorem dX10_known_5 : decode cX10_known 5 = .ok (.invokevirtual 214, 3) := by decide +kernel
theorem dX10_known_8 : decode cX10_known 8 = .ok (.invokevirtual 279, 3) := by decide +kernel
theorem dX10_known_11 : decode cX10_known 11 = .ok (.ireturn, 1) := by decide +kernel
def VX10_known_0 (d : Nat) (Q : Out → MS → Prop) (x0 : Nat) (S : MS) : Prop :=
  S.K x0 = 10 ∧ Mw hX10_allRows yX10_allRows d [vA x0] S (oA (fun r1 S1 => S1.K x0 = 10 ∧ Mw hX10_rowsLeft yX10_rowsLeft d [vA x0] S1 (oA (fun r2 S2 => S2.K r1 = 0 ∧ Mw hX0_areKnown yX0_areKnown d [vA r1, vA r2] S2 (oI (fun r3 S3 => B01 r3 ∧ Q (.inl (some (vI r3))) S3))))))
theorem JX10_known_0 {d : Nat} {S0 : MS} {Q : Out → MS → Prop} (x0 : Nat) (S : MS) (h : VX10_known_0 d Q x0 S) : Jw FinM RX10 cX10_known 1 (some .boolean) [] yX10_known (d + 1) S0 S 0 [(0, vA x0)] [] Q :=
  j_aload_n 0 dX10_known_0 rfl (j_callV (rest := []) 10 [] k_RX10_229 ⟨w_2_61, p_1_1⟩ ⟨_, _, rfl⟩ (by decide) rfl rfl (Nat.le_of_ble_eq_true rfl) dX10_known_1 h (kA (fun r1 S1 h => j_aload_n 0 dX10_known_4 rfl (j_callV (rest := [vA r1]) 10 [] k_RX10_214 ⟨w_2_57, p_1_0⟩ ⟨_, _, rfl⟩ (by decide) rfl rfl (Nat.le_of_ble_eq_true rfl) dX10_known_5 h (kA (fun r2 S2 h => j_callV (rest := []) 0 [vA r2] k_RX10_279 ⟨w_3_63, w_3_64⟩ ⟨_, _, rfl⟩ (by decide) rfl rfl (Nat.le_of_ble_eq_true rfl) dX10_known_8 h (kI (fun r3 S3 h => j_zret rfl dX10_known_11 h)) (fun _ _ h => h.elim))) (fun _ _ h => h.elim)))) (fun _ _ h => h.elim))
theorem MX10_known {d : Nat} {x0 : Nat} {S : MS} {Q : Out → MS → Prop} (h : VX10_known_0 d Q x0 S) : Mw hX10_known yX10_known (d + 1) [vA x0] S Q := Mw.ofJ (by decide) (Nat.le_of_ble_eq_true rfl) (JX10_known_0 _ S h)
theorem dX10_quarrels_0 : decode cX10_quarrels 0 = .ok (.aload_n 0, 1) := by decide +kernel
theorem dX10_quarrels_1 : decode cX10_quarrels 1 = .ok (.getfield 40, 3) := by decide +kernel
theorem dX10_quarrels_4 : decode cX10_quarrels 4 = .ok (.aload_n 0, 1) := by decide +kernel
theorem dX10_quarrels_5 : decode cX10_quarrels 5 = .ok (.getfield 24, 3) := by decide +kernel
theorem dX10_quarrels_8 : decode cX10_quarrels 8 = .ok (.aload_n 0, 1) := by decide +kernel
theorem dX10_quarrels_9 : decode cX10_quarrels 9 = .ok (.invokevirtual 229, 3) := by decide +kernel
theorem dX10_quarrels_12 : decode cX10_quarrels 12 = .ok (.invokevirtual 283, 3) := by decide +kernel
theorem dX10_quarrels_15 : decode cX10_quarrels 15 = .ok (.aload_n 0, 1) := by decide +kernel
theorem dX10_quarrels_16 : decode cX10_quarrels 16 = .ok (.getfield 40, 3) := by decide +kernel
theorem dX10_quarrels_19 : decode cX10_quarrels 19 = .ok (.aload_n 0, 1) := by decide +kernel
theorem dX10_quarrels_20 : decode cX10_quarrels 20 = .ok (.getfield 24, 3) := by decide +kernel
theorem dX10_quarrels_23 : decode cX10_quarrels 23 = .ok (.invokevirtual 287, 3) := by decide +kernel
theorem dX10_quarrels_26 : decode cX10_quarrels 26 = .ok (.ireturn, 1) := by decide +kernel
def VX10_quarrels_0 (d : Nat) (Q : Out → MS → Prop) (x0 : Nat) (S : MS) : Prop :=
  S.K x0 = 10 ∧ ∃ b1, S.R x0 5 = some b1 ∧ (S.K x0 = 10 ∧ ∃ b2, S.R x0 2 = some b2 ∧ (S.K x0 = 10 ∧ Mw hX10_allRows yX10_allRows d [vA x0] S (oA (fun r3 S3 => S3.K b1 = 1 ∧ Mw hX1_aim yX1_aim d [vA b1, vA b2, vA r3] S3 (oV (fun S4 => S4.K x0 = 10 ∧ ∃ b5, S4.R x0 5 = some b5 ∧ (S4.K x0 = 10 ∧ ∃ b6, S4.R x0 2 = some b6 ∧ (S4.K b5 = 1 ∧ Mw hX1_quarrelling yX1_quarrelling d [vA b5, vA b6] S4 (oI (fun r7 S7 => Q (.inl (some (vI r7))) S7))))))))))
theorem JX10_quarrels_0 {d : Nat} {S0 : MS} {Q : Out → MS → Prop} (x0 : Nat) (S : MS) (h : VX10_quarrels_0 d Q x0 S) : Jw FinM RX10 cX10_quarrels 1 (some .int) [] yX10_quarrels (d + 1) S0 S 0 [(0, vA x0)] [] Q :=
  j_aload_n 0 dX10_quarrels_0 rfl (j_getR 10 5 f_RX10_40 dX10_quarrels_1 h (fun b1 h => j_aload_n 0 dX10_quarrels_4 rfl (j_getR 10 2 f_RX10_24 dX10_quarrels_5 h (fun b2 h => j_aload_n 0 dX10_quarrels_8 rfl (j_callV (rest := [vA b2, vA b1]) 10 [] k_RX10_229 ⟨w_2_61, p_1_1⟩ ⟨_, _, rfl⟩ (by decide) rfl rfl (Nat.le_of_ble_eq_true rfl) dX10_quarrels_9 h (kA (fun r3 S3 h => j_callV (rest := []) 1 [vA b2, vA r3] k_RX10_283 ⟨w_2_207, w_2_208⟩ ⟨_, _, rfl⟩ (by decide) rfl rfl (Nat.le_of_ble_eq_true rfl) dX10_quarrels_12 h (kV (fun S4 h => j_aload_n 0 dX10_quarrels_15 rfl (j_getR 10 5 f_RX10_40 dX10_quarrels_16 h (fun b5 h => j_aload_n 0 dX10_quarrels_19 rfl (j_getR 10 2 f_RX10_24 dX10_quarrels_20 h (fun b6 h => j_callV (rest := []) 1 [vA b6] k_RX10_287 ⟨w_3_89, w_3_90⟩ ⟨_, _, rfl⟩ (by decide) rfl rfl (Nat.le_of_ble_eq_true rfl) dX10_quarrels_23 h (kI (fun r7 S7 h => j_iret rfl dX10_quarrels_26 h)) (fun _ _ h => h.elim))))))) (fun _ _ h => h.elim))) (fun _ _ h => h.elim))))))
theorem MX10_quarrels {d : Nat} {x0 : Nat} {S : MS} {Q : Out → MS → Prop} (h : VX10_quarrels_0 d Q x0 S) : Mw hX10_quarrels yX10_quarrels (d + 1) [vA x0] S Q := Mw.ofJ (by decide) (Nat.le_of_ble_eq_true rfl) (JX10_quarrels_0 _ S h)
theorem dX10_proof_0 : decode cX10_proof 0 = .ok (.aload_n 0, 1) := by decide +kernel
theorem dX10_proof_1 : decode cX10_proof 1 = .ok (.getfield 40, 3) := by decide +kernel
theorem dX10_proof_4 : decode cX10_proof 4 = .ok (.aload_n 0, 1) := by decide +kernel
theorem dX10_proof_5 : decode cX10_proof 5 = .ok (.getfield 24, 3) := by decide +kernel
theorem dX10_proof_8 : decode cX10_proof 8 = .ok (.aload_n 0, 1) := by decide +kernel
theorem dX10_proof_9 : decode cX10_proof 9 = .ok (.invokevirtual 229, 3) := by decide +kernel
theorem dX10_proof_12 : decode cX10_proof 12 = .ok (.invokevirtual 283, 3) := by decide +kernel
theorem dX10_proof_15 : decode cX10_proof 15 = .ok (.aload_n 0, 1) := by decide +kernel
theorem dX10_proof_16 : decode cX10_proof 16 = .ok (.getfield 40, 3) := by decide +kernel
theorem dX10_proof_19 : decode cX10_proof 19 = .ok (.aload_n 0, 1) := by decide +kernel
theorem dX10_proof_20 : decode cX10_proof 20 = .ok (.getfield 24, 3) := by decide +kernel
theorem dX10_proof_23 : decode cX10_proof 23 = .ok (.aload_n 0, 1) := by decide +kernel
theorem dX10_proof_24 : decode cX10_proof 24 = .ok (.invokevirtual 229, 3) := by decide +kernel
theorem dX10_proof_27 : decode cX10_proof 27 = .ok (.aload_n 0, 1) := by decide +kernel
theorem dX10_proof_28 : decode cX10_proof 28 = .ok (.getfield 51, 3) := by decide +kernel
theorem dX10_proof_31 : decode cX10_proof 31 = .ok (.invokevirtual 291, 3) := by decide +kernel
theorem dX10_proof_34 : decode cX10_proof 34 = .ok (.ireturn, 1) := by decide +kernel
def VX10_proof_0 (d : Nat) (Q : Out → MS → Prop) (x0 : Nat) (S : MS) : Prop :=
  S.K x0 = 10 ∧ ∃ b1, S.R x0 5 = some b1 ∧ (S.K x0 = 10 ∧ ∃ b2, S.R x0 2 = some b2 ∧ (S.K x0 = 10 ∧ Mw hX10_allRows yX10_allRows d [vA x0] S (oA (fun r3 S3 => S3.K b1 = 1 ∧ Mw hX1_aim yX1_aim d [vA b1, vA b2, vA r3] S3 (oV (fun S4 => S4.K x0 = 10 ∧ ∃ b5, S4.R x0 5 = some b5 ∧ (S4.K x0 = 10 ∧ ∃ b6, S4.R x0 2 = some b6 ∧ (S4.K x0 = 10 ∧ Mw hX10_allRows yX10_allRows d [vA x0] S4 (oA (fun r7 S7 => S7.K x0 = 10 ∧ ∃ b8, S7.R x0 7 = some b8 ∧ (S7.K b5 = 1 ∧ Mw hX1_leastProof yX1_leastProof d [vA b5, vA b6, vA r7, vA b8] S7 (oI (fun r9 S9 => Q (.inl (some (vI r9))) S9)))))))))))))
theorem JX10_proof_0 {d : Nat} {S0 : MS} {Q : Out → MS → Prop} (x0 : Nat) (S : MS) (h : VX10_proof_0 d Q x0 S) : Jw FinM RX10 cX10_proof 1 (some .int) [] yX10_proof (d + 1) S0 S 0 [(0, vA x0)] [] Q :=
  j_aload_n 0 dX10_proof_0 rfl (j_getR 10 5 f_RX10_40 dX10_proof_1 h (fun b1 h => j_aload_n 0 dX10_proof_4 rfl (j_getR 10 2 f_RX10_24 dX10_proof_5 h (fun b2 h => j_aload_n 0 dX10_proof_8 rfl (j_callV (rest := [vA b2, vA b1]) 10 [] k_RX10_229 ⟨w_2_61, p_1_1⟩ ⟨_, _, rfl⟩ (by decide) rfl rfl (Nat.le_of_ble_eq_true rfl) dX10_proof_9 h (kA (fun r3 S3 h => j_callV (rest := []) 1 [vA b2, vA r3] k_RX10_283 ⟨w_2_207, w_2_208⟩ ⟨_, _, rfl⟩ (by decide) rfl rfl (Nat.le_of_ble_eq_true rfl) dX10_proof_12 h (kV (fun S4 h => j_aload_n 0 dX10_proof_15 rfl (j_getR 10 5 f_RX10_40 dX10_proof_16 h (fun b5 h => j_aload_n 0 dX10_proof_19 rfl (j_getR 10 2 f_RX10_24 dX10_proof_20 h (fun b6 h => j_aload_n 0 dX10_proof_23 rfl (j_callV (rest := [vA b6, vA b5]) 10 [] k_RX10_229 ⟨w_2_61, p_1_1⟩ ⟨_, _, rfl⟩ (by decide) rfl rfl (Nat.le_of_ble_eq_true rfl) dX10_proof_24 h (kA (fun r7 S7 h => j_aload_n 0 dX10_proof_27 rfl (j_getR 10 7 f_RX10_51 dX10_proof_28 h (fun b8 h => j_callV (rest := []) 1 [vA b6, vA r7, vA b8] k_RX10_291 ⟨w_3_100, w_3_101⟩ ⟨_, _, rfl⟩ (by decide) rfl rfl (Nat.le_of_ble_eq_true rfl) dX10_proof_31 h (kI (fun r9 S9 h => j_iret rfl dX10_proof_34 h)) (fun _ _ h => h.elim))))) (fun _ _ h => h.elim)))))))) (fun _ _ h => h.elim))) (fun _ _ h => h.elim))))))
theorem MX10_proof {d : Nat} {x0 : Nat} {S : MS} {Q : Out → MS → Prop} (h : VX10_proof_0 d Q x0 S) : Mw hX10_proof yX10_proof (d + 1) [vA x0] S Q := Mw.ofJ (by decide) (Nat.le_of_ble_eq_true rfl) (JX10_proof_0 _ S h)
theorem dX10_wrongly_0 : decode cX10_wrongly 0 = .ok (.iconst 0, 1) := by decide +kernel
theorem dX10_wrongly_1 : decode cX10_wrongly 1 = .ok (.istore_n 1, 1) := by decide +kernel
theorem dX10_wrongly_2 : decode cX10_wrongly 2 = .ok (.iconst 0, 1) := by decide +kernel
theorem dX10_wrongly_3 : decode cX10_wrongly 3 = .ok (.istore_n 2, 1) := by decide +kernel
theorem dX10_wrongly_4 : decode cX10_wrongly 4 = .ok (.iload_n 2, 1) := by decide +kernel
theorem dX10_wrongly_5 : decode cX10_wrongly 5 = .ok (.aload_n 0, 1) := by decide +kernel
theorem dX10_wrongly_6 : decode cX10_wrongly 6 = .ok (.getfield 24, 3) := by decide +kernel
theorem dX10_wrongly_9 : decode cX10_wrongly 9 = .ok (.getfield 132, 3) := by decide +kernel
theorem dX10_wrongly_12 : decode cX10_wrongly 12 = .ok (.if_icmp .ge 27, 3) := by decide +kernel
theorem dX10_wrongly_15 : decode cX10_wrongly 15 = .ok (.iload_n 1, 1) := by decide +kernel
theorem dX10_wrongly_16 : decode cX10_wrongly 16 = .ok (.aload_n 0, 1) := by decide +kernel
theorem dX10_wrongly_17 : decode cX10_wrongly 17 = .ok (.iload_n 2, 1) := by decide +kernel
theorem dX10_wrongly_18 : decode cX10_wrongly 18 = .ok (.invokevirtual 295, 3) := by decide +kernel
theorem dX10_wrongly_21 : decode cX10_wrongly 21 = .ok (.ifCond .le 9, 3) := by decide +kernel
theorem dX10_wrongly_24 : decode cX10_wrongly 24 = .ok (.iconst 1, 1) := by decide +kernel
theorem dX10_wrongly_25 : decode cX10_wrongly 25 = .ok (.iload_n 2, 1) := by decide +kernel
theorem dX10_wrongly_26 : decode cX10_wrongly 26 = .ok (.ishl, 1) := by decide +kernel
theorem dX10_wrongly_27 : decode cX10_wrongly 27 = .ok (.goto 4, 3) := by decide +kernel
theorem dX10_wrongly_30 : decode cX10_wrongly 30 = .ok (.iconst 0, 1) := by decide +kernel
theorem dX10_wrongly_31 : decode cX10_wrongly 31 = .ok (.ior, 1) := by decide +kernel
theorem dX10_wrongly_32 : decode cX10_wrongly 32 = .ok (.istore_n 1, 1) := by decide +kernel
theorem dX10_wrongly_33 : decode cX10_wrongly 33 = .ok (.iinc 2 1, 3) := by decide +kernel
theorem dX10_wrongly_36 : decode cX10_wrongly 36 = .ok (.goto (-32), 3) := by decide +kernel
theorem dX10_wrongly_39 : decode cX10_wrongly 39 = .ok (.iload_n 1, 1) := by decide +kernel
theorem dX10_wrongly_40 : decode cX10_wrongly 40 = .ok (.ireturn, 1) := by decide +kernel
def VX10_wrongly_31 (d : Nat) (c4 : Nat → Int → Int → MS → Prop) (Q : Out → MS → Prop) (x0 : Nat) (x2 : Int) (t0 : Int) (t1 : Int) (S : MS) : Prop :=
  c4 x0 (iOr t1 t0) (x2 + 1) S
theorem JX10_wrongly_31 {d : Nat} {c4 : Nat → Int → Int → MS → Prop} {S0 : MS} {Q : Out → MS → Prop} (hc4 : ∀ (x0 : Nat) (x1 : Int) (x2 : Int) (S : MS), c4 x0 x1 x2 S → Jw FinM RX10 cX10_wrongly 3 (some .int) [] yX10_wrongly (d + 1) S0 S 4 [(0, vA x0), (1, vI x1), (2, vI x2)] [] Q) (x0 : Nat) (x2 : Int) (t0 : Int) (t1 : Int) (S : MS) (h : VX10_wrongly_31 d c4 Q x0 x2 t0 t1 S) : Jw FinM RX10 cX10_wrongly 3 (some .int) [] yX10_wrongly (d + 1) S0 S 31 [(0, vA x0), (2, vI x2)] [vI t0, vI t1] Q :=
  j_ior dX10_wrongly_31 (j_istore_n (lv2 := [(1, vI (iOr t1 t0)), (0, vA x0), (2, vI x2)]) dX10_wrongly_32 (by decide) rfl (j_iinc 2 (lv2 := [(2, vI (x2 + 1)), (1, vI (iOr t1 t0)), (0, vA x0)]) dX10_wrongly_33 rfl (by decide) rfl (j_goto (tgt := 4) dX10_wrongly_36 (by decide) (j_sub [2, 1, 0] rfl (hc4 _ _ _ _ h)))))
def VX10_wrongly_4 (d : Nat) (Q : Out → MS → Prop) : Nat → Nat → Int → Int → MS → Prop
  | 0, _, _, _, _ => False
  | n + 1, x0, x1, x2, S => S.K x0 = 10 ∧ ∃ b1, S.R x0 2 = some b1 ∧ (S.K b1 = 7 ∧ ((R32 x2 ∧ R32 (S.I b1 9)) ∧ (((S.I b1 9) ≤ x2) → Q (.inl (some (vI x1))) S) ∧ (¬ ((S.I b1 9) ≤ x2) → S.K x0 = 10 ∧ Mw hX10_sizeWithout yX10_sizeWithout d [vA x0, vI x2] S (oI (fun r2 S2 => R32 r2 ∧ ((r2 ≤ 0) → VX10_wrongly_31 d (VX10_wrongly_4 d Q n) Q x0 x2 0 x1 S2) ∧ (¬ (r2 ≤ 0) → VX10_wrongly_31 d (VX10_wrongly_4 d Q n) Q x0 x2 (iShl 1 x2) x1 S2))))))
theorem JX10_wrongly_4 {d : Nat} {S0 : MS} {Q : Out → MS → Prop} : ∀ (n : Nat) (x0 : Nat) (x1 : Int) (x2 : Int) (S : MS), VX10_wrongly_4 d Q n x0 x1 x2 S → Jw FinM RX10 cX10_wrongly 3 (some .int) [] yX10_wrongly (d + 1) S0 S 4 [(0, vA x0), (1, vI x1), (2, vI x2)] [] Q := by
  intro n
  induction n with
  | zero => intro x0 x1 x2 S h; exact h.elim
  | succ n ih =>
    intro x0 x1 x2 S h
    exact j_iload_n 2 dX10_wrongly_4 rfl (j_aload_n 0 dX10_wrongly_5 rfl (j_getR 10 2 f_RX10_24 dX10_wrongly_6 h (fun b1 h => j_getI 7 9 f_RX10_132 dX10_wrongly_9 h (fun h => j_icmp_ge (tgt := 39) dX10_wrongly_12 (by decide) h (fun h => j_iload_n 1 dX10_wrongly_39 rfl (j_iret rfl dX10_wrongly_40 h)) (fun h => j_iload_n 1 dX10_wrongly_15 rfl (j_aload_n 0 dX10_wrongly_16 rfl (j_iload_n 2 dX10_wrongly_17 rfl (j_callV (rest := [vI x1]) 10 [vI x2] k_RX10_295 ⟨w_3_128, p_1_10⟩ ⟨_, _, rfl⟩ (by decide) rfl rfl (Nat.le_of_ble_eq_true rfl) dX10_wrongly_18 h (kI (fun r2 S2 h => j_if_le (tgt := 30) dX10_wrongly_21 (by decide) h (fun h => j_iconst dX10_wrongly_30 (j_sub [0, 2] rfl (JX10_wrongly_31 ih _ _ _ _ _ h))) (fun h => j_iconst dX10_wrongly_24 (j_iload_n 2 dX10_wrongly_25 rfl (j_ishl dX10_wrongly_26 (j_goto (tgt := 31) dX10_wrongly_27 (by decide) (j_sub [0, 2] rfl (JX10_wrongly_31 ih _ _ _ _ _ h)))))))) (fun _ _ h => h.elim)))))))))
def VX10_wrongly_0 (d : Nat) (Q : Out → MS → Prop) (x0 : Nat) (S : MS) : Prop :=
  ∃ m, VX10_wrongly_4 d Q m x0 0 0 S
theorem JX10_wrongly_0 {d : Nat} {S0 : MS} {Q : Out → MS → Prop} (x0 : Nat) (S : MS) (h : VX10_wrongly_0 d Q x0 S) : Jw FinM RX10 cX10_wrongly 3 (some .int) [] yX10_wrongly (d + 1) S0 S 0 [(0, vA x0)] [] Q :=
  j_iconst dX10_wrongly_0 (j_istore_n (lv2 := [(1, vI 0), (0, vA x0)]) dX10_wrongly_1 (by decide) rfl (j_iconst dX10_wrongly_2 (j_istore_n (lv2 := [(2, vI 0), (1, vI 0), (0, vA x0)]) dX10_wrongly_3 (by decide) rfl (Exists.elim h (fun m h => j_sub [2, 1, 0] rfl (JX10_wrongly_4 m _ _ _ _ h))))))
theorem MX10_wrongly {d : Nat} {x0 : Nat} {S : MS} {Q : Out → MS → Prop} (h : VX10_wrongly_0 d Q x0 S) : Mw hX10_wrongly yX10_wrongly (d + 1) [vA x0] S Q := Mw.ofJ (by decide) (Nat.le_of_ble_eq_true rfl) (JX10_wrongly_0 _ S h)
theorem dX10_mends_0 : decode cX10_mends 0 = .ok (.aload_n 0, 1) := by decide +kernel
theorem dX10_mends_1 : decode cX10_mends 1 = .ok (.iload_n 1, 1) := by decide +kernel
theorem dX10_mends_2 : decode cX10_mends 2 = .ok (.invokevirtual 194, 3) := by decide +kernel
theorem dX10_mends_5 : decode cX10_mends 5 = .ok (.iconst 0, 1) := by decide +kernel
theorem dX10_mends_6 : decode cX10_mends 6 = .ok (.istore_n 2, 1) := by decide +kernel
theorem dX10_mends_7 : decode cX10_mends 7 = .ok (.iconst 0, 1) := by decide +kernel
theorem dX10_mends_8 : decode cX10_mends 8 = .ok (.istore_n 3, 1) := by decide +kernel
theorem dX10_mends_9 : decode cX10_mends 9 = .ok (.iload_n 3, 1) := by decide +kernel
theorem dX10_mends_10 : decode cX10_mends 10 = .ok (.aload_n 0, 1) := by decide +kernel
theorem dX10_mends_11 : decode cX10_mends 11 = .ok (.getfield 24, 3) := by decide +kernel
theorem dX10_mends_14 : decode cX10_mends 14 = .ok (.getfield 261, 3) := by decide +kernel
theorem dX10_mends_17 : decode cX10_mends 17 = .ok (.if_icmp .ge 57, 3) := by decide +kernel
theorem dX10_mends_20 : decode cX10_mends 20 = .ok (.aload_n 0, 1) := by decide +kernel
theorem dX10_mends_21 : decode cX10_mends 21 = .ok (.getfield 24, 3) := by decide +kernel
theorem dX10_mends_24 : decode cX10_mends 24 = .ok (.getfield 200, 3) := by decide +kernel
theorem dX10_mends_27 : decode cX10_mends 27 = .ok (.iload_n 1, 1) := by decide +kernel
theorem dX10_mends_28 : decode cX10_mends 28 = .ok (.iaload, 1) := by decide +kernel
theorem dX10_mends_29 : decode cX10_mends 29 = .ok (.iload_n 3, 1) := by decide +kernel
theorem dX10_mends_30 : decode cX10_mends 30 = .ok (.invokestatic 184, 3) := by decide +kernel
theorem dX10_mends_33 : decode cX10_mends 33 = .ok (.ifCond .eq 35, 3) := by decide +kernel
theorem dX10_mends_36 : decode cX10_mends 36 = .ok (.iload_n 3, 1) := by decide +kernel
theorem dX10_mends_37 : decode cX10_mends 37 = .ok (.aload_n 0, 1) := by decide +kernel
theorem dX10_mends_38 : decode cX10_mends 38 = .ok (.getfield 24, 3) := by decide +kernel
theorem dX10_mends_41 : decode cX10_mends 41 = .ok (.getfield 203, 3) := by decide +kernel
theorem dX10_mends_44 : decode cX10_mends 44 = .ok (.iload_n 1, 1) := by decide +kernel
theorem dX10_mends_45 : decode cX10_mends 45 = .ok (.iaload, 1) := by decide +kernel
theorem dX10_mends_46 : decode cX10_mends 46 = .ok (.if_icmp .eq 22, 3) := by decide +kernel
theorem dX10_mends_49 : decode cX10_mends 49 = .ok (.iload_n 2, 1) := by decide +kernel
theorem dX10_mends_50 : decode cX10_mends 50 = .ok (.aload_n 0, 1) := by decide +kernel
theorem dX10_mends_51 : decode cX10_mends 51 = .ok (.iload_n 1, 1) := by decide +kernel
theorem dX10_mends_52 : decode cX10_mends 52 = .ok (.iload_n 3, 1) := by decide +kernel
theorem dX10_mends_53 : decode cX10_mends 53 = .ok (.invokevirtual 298, 3) := by decide +kernel
theorem dX10_mends_56 : decode cX10_mends 56 = .ok (.ifCond .le 9, 3) := by decide +kernel
theorem dX10_mends_59 : decode cX10_mends 59 = .ok (.iconst 1, 1) := by decide +kernel
theorem dX10_mends_60 : decode cX10_mends 60 = .ok (.iload_n 3, 1) := by decide +kernel
theorem dX10_mends_61 : decode cX10_mends 61 = .ok (.ishl, 1) := by decide +kernel
theorem dX10_mends_62 : decode cX10_mends 62 = .ok (.goto 4, 3) := by decide +kernel
theorem dX10_mends_65 : decode cX10_mends 65 = .ok (.iconst 0, 1) := by decide +kernel
theorem dX10_mends_66 : decode cX10_mends 66 = .ok (.ior, 1) := by decide +kernel
theorem dX10_mends_67 : decode cX10_mends 67 = .ok (.istore_n 2, 1) := by decide +kernel
theorem dX10_mends_68 : decode cX10_mends 68 = .ok (.iinc 3 1, 3) := by decide +kernel
theorem dX10_mends_71 : decode cX10_mends 71 = .ok (.goto (-62), 3) := by decide +kernel
theorem dX10_mends_74 : decode cX10_mends 74 = .ok (.iload_n 2, 1) := by decide +kernel
theorem dX10_mends_75 : decode cX10_mends 75 = .ok (.ireturn, 1) := by decide +kernel
def VX10_mends_68 (d : Nat) (c9 : Nat → Int → Int → Int → MS → Prop) (Q : Out → MS → Prop) (x0 : Nat) (x1 : Int) (x2 : Int) (x3 : Int) (S : MS) : Prop :=
  c9 x0 x1 x2 (x3 + 1) S
theorem JX10_mends_68 {d : Nat} {c9 : Nat → Int → Int → Int → MS → Prop} {S0 : MS} {Q : Out → MS → Prop} (hc9 : ∀ (x0 : Nat) (x1 : Int) (x2 : Int) (x3 : Int) (S : MS), c9 x0 x1 x2 x3 S → Jw FinM RX10 cX10_mends 4 (some .int) [] yX10_mends (d + 1) S0 S 9 [(0, vA x0), (1, vI x1), (2, vI x2), (3, vI x3)] [] Q) (x0 : Nat) (x1 : Int) (x2 : Int) (x3 : Int) (S : MS) (h : VX10_mends_68 d c9 Q x0 x1 x2 x3 S) : Jw FinM RX10 cX10_mends 4 (some .int) [] yX10_mends (d + 1) S0 S 68 [(0, vA x0), (1, vI x1), (2, vI x2), (3, vI x3)] [] Q :=
  j_iinc 3 (lv2 := [(3, vI (x3 + 1)), (0, vA x0), (1, vI x1), (2, vI x2)]) dX10_mends_68 rfl (by decide) rfl (j_goto (tgt := 9) dX10_mends_71 (by decide) (j_sub [1, 2, 3, 0] rfl (hc9 _ _ _ _ _ h)))
def VX10_mends_66 (d : Nat) (c9 : Nat → Int → Int → Int → MS → Prop) (Q : Out → MS → Prop) (x0 : Nat) (x1 : Int) (x3 : Int) (t0 : Int) (t1 : Int) (S : MS) : Prop :=
  VX10_mends_68 d c9 Q x0 x1 (iOr t1 t0) x3 S
theorem JX10_mends_66 {d : Nat} {c9 : Nat → Int → Int → Int → MS → Prop} {S0 : MS} {Q : Out → MS → Prop} (hc9 : ∀ (x0 : Nat) (x1 : Int) (x2 : Int) (x3 : Int) (S : MS), c9 x0 x1 x2 x3 S → Jw FinM RX10 cX10_mends 4 (some .int) [] yX10_mends (d + 1) S0 S 9 [(0, vA x0), (1, vI x1), (2, vI x2), (3, vI x3)] [] Q) (x0 : Nat) (x1 : Int) (x3 : Int) (t0 : Int) (t1 : Int) (S : MS) (h : VX10_mends_66 d c9 Q x0 x1 x3 t0 t1 S) : Jw FinM RX10 cX10_mends 4 (some .int) [] yX10_mends (d + 1) S0 S 66 [(0, vA x0), (1, vI x1), (3, vI x3)] [vI t0, vI t1] Q :=
  j_ior dX10_mends_66 (j_istore_n (lv2 := [(2, vI (iOr t1 t0)), (0, vA x0), (1, vI x1), (3, vI x3)]) dX10_mends_67 (by decide) rfl (j_sub [1, 2, 0, 3] rfl (JX10_mends_68 hc9 _ _ _ _ _ h)))
def VX10_mends_9 (d : Nat) (Q : Out → MS → Prop) : Nat → Nat → Int → Int → Int → MS → Prop
  | 0, _, _, _, _, _ => False
  | n + 1, x0, x1, x2, x3, S => S.K x0 = 10 ∧ ∃ b1, S.R x0 2 = some b1 ∧ (S.K b1 = 7 ∧ ((R32 x3 ∧ R32 (S.I b1 7)) ∧ (((S.I b1 7) ≤ x3) → Q (.inl (some (vI x2))) S) ∧ (¬ ((S.I b1 7) ≤ x3) → S.K x0 = 10 ∧ ∃ b2, S.R x0 2 = some b2 ∧ (S.K b2 = 7 ∧ ∃ b3, S.R b2 5 = some b3 ∧ ((S.K b3 = 13 ∧ 0 ≤ x1 ∧ x1 < S.N b3) ∧ (Mw hX10_holds yX10_holds d [vI (S.I b3 (x1).toNat), vI x3] S (oI (fun r4 S4 => R32 r4 ∧ ((r4 = 0) → VX10_mends_68 d (VX10_mends_9 d Q n) Q x0 x1 x2 x3 S4) ∧ (¬ (r4 = 0) → S4.K x0 = 10 ∧ ∃ b5, S4.R x0 2 = some b5 ∧ (S4.K b5 = 7 ∧ ∃ b6, S4.R b5 6 = some b6 ∧ ((S4.K b6 = 13 ∧ 0 ≤ x1 ∧ x1 < S4.N b6) ∧ ((R32 x3 ∧ R32 (S4.I b6 (x1).toNat)) ∧ ((x3 = (S4.I b6 (x1).toNat)) → VX10_mends_68 d (VX10_mends_9 d Q n) Q x0 x1 x2 x3 S4) ∧ (¬ (x3 = (S4.I b6 (x1).toNat)) → S4.K x0 = 10 ∧ Mw hX10_sizeHadRisen yX10_sizeHadRisen d [vA x0, vI x1, vI x3] S4 (oI (fun r7 S7 => R32 r7 ∧ ((r7 ≤ 0) → VX10_mends_66 d (VX10_mends_9 d Q n) Q x0 x1 x3 0 x2 S7) ∧ (¬ (r7 ≤ 0) → VX10_mends_66 d (VX10_mends_9 d Q n) Q x0 x1 x3 (iShl 1 x3) x2 S7))))))))))))))))
theorem JX10_mends_9 {d : Nat} {S0 : MS} {Q : Out → MS → Prop} : ∀ (n : Nat) (x0 : Nat) (x1 : Int) (x2 : Int) (x3 : Int) (S : MS), VX10_mends_9 d Q n x0 x1 x2 x3 S → Jw FinM RX10 cX10_mends 4 (some .int) [] yX10_mends (d + 1) S0 S 9 [(0, vA x0), (1, vI x1), (2, vI x2), (3, vI x3)] [] Q := by
  intro n
  induction n with
  | zero => intro x0 x1 x2 x3 S h; exact h.elim
  | succ n ih =>
    intro x0 x1 x2 x3 S h
    exact j_iload_n 3 dX10_mends_9 rfl (j_aload_n 0 dX10_mends_10 rfl (j_getR 10 2 f_RX10_24 dX10_mends_11 h (fun b1 h => j_getI 7 7 f_RX10_261 dX10_mends_14 h (fun h => j_icmp_ge (tgt := 74) dX10_mends_17 (by decide) h (fun h => j_iload_n 2 dX10_mends_74 rfl (j_iret rfl dX10_mends_75 h)) (fun h => j_aload_n 0 dX10_mends_20 rfl (j_getR 10 2 f_RX10_24 dX10_mends_21 h (fun b2 h => j_getR 7 5 f_RX10_200 dX10_mends_24 h (fun b3 h => j_iload_n 1 dX10_mends_27 rfl (j_iald dX10_mends_28 h (fun h => j_iload_n 3 dX10_mends_29 rfl (j_callS (rest := []) [vI (S.I b3 (x1).toNat), vI x3] k_RX10_184 w_2_192 rfl rfl (Nat.le_of_ble_eq_true rfl) dX10_mends_30 h (kI (fun r4 S4 h => j_if_eq (tgt := 68) dX10_mends_33 (by decide) h (fun h => JX10_mends_68 ih _ _ _ _ _ h) (fun h => j_iload_n 3 dX10_mends_36 rfl (j_aload_n 0 dX10_mends_37 rfl (j_getR 10 2 f_RX10_24 dX10_mends_38 h (fun b5 h => j_getR 7 6 f_RX10_203 dX10_mends_41 h (fun b6 h => j_iload_n 1 dX10_mends_44 rfl (j_iald dX10_mends_45 h (fun h => j_icmp_eq (tgt := 68) dX10_mends_46 (by decide) h (fun h => JX10_mends_68 ih _ _ _ _ _ h) (fun h => j_iload_n 2 dX10_mends_49 rfl (j_aload_n 0 dX10_mends_50 rfl (j_iload_n 1 dX10_mends_51 rfl (j_iload_n 3 dX10_mends_52 rfl (j_callV (rest := [vI x2]) 10 [vI x1, vI x3] k_RX10_298 ⟨w_5_237, p_3_3⟩ ⟨_, _, rfl⟩ (by decide) rfl rfl (Nat.le_of_ble_eq_true rfl) dX10_mends_53 h (kI (fun r7 S7 h => j_if_le (tgt := 65) dX10_mends_56 (by decide) h (fun h => j_iconst dX10_mends_65 (j_sub [0, 1, 3] rfl (JX10_mends_66 ih _ _ _ _ _ _ h))) (fun h => j_iconst dX10_mends_59 (j_iload_n 3 dX10_mends_60 rfl (j_ishl dX10_mends_61 (j_goto (tgt := 66) dX10_mends_62 (by decide) (j_sub [0, 1, 3] rfl (JX10_mends_66 ih _ _ _ _ _ _ h)))))))) (fun _ _ h => h.elim))))))))))))))) (fun _ _ h => h.elim))))))))))))
def VX10_mends_0 (d : Nat) (Q : Out → MS → Prop) (x0 : Nat) (x1 : Int) (S : MS) : Prop :=
  S.K x0 = 10 ∧ Mw hX10_needNote yX10_needNote d [vA x0, vI x1] S (xV (fun S1 => ∃ m, VX10_mends_9 d Q m x0 x1 0 0 S1) (fun E S9 => Q (.inr E) S9))
theorem JX10_mends_0 {d : Nat} {S0 : MS} {Q : Out → MS → Prop} (x0 : Nat) (x1 : Int) (S : MS) (h : VX10_mends_0 d Q x0 x1 S) : Jw FinM RX10 cX10_mends 4 (some .int) [] yX10_mends (d + 1) S0 S 0 [(0, vA x0), (1, vI x1)] [] Q :=
  j_aload_n 0 dX10_mends_0 rfl (j_iload_n 1 dX10_mends_1 rfl (j_callV (rest := []) 10 [vI x1] k_RX10_194 ⟨w_5_134, p_2_15⟩ ⟨_, _, rfl⟩ (by decide) rfl rfl (Nat.le_of_ble_eq_true rfl) dX10_mends_2 h (kV (fun S1 h => j_iconst dX10_mends_5 (j_istore_n (lv2 := [(2, vI 0), (0, vA x0), (1, vI x1)]) dX10_mends_6 (by decide) rfl (j_iconst dX10_mends_7 (j_istore_n (lv2 := [(3, vI 0), (2, vI 0), (0, vA x0), (1, vI x1)]) dX10_mends_8 (by decide) rfl (Exists.elim h (fun m h => j_sub [2, 3, 1, 0] rfl (JX10_mends_9 m _ _ _ _ _ h)))))))) (fun _ _ h => jx_out h)))
theorem MX10_mends {d : Nat} {x0 : Nat} {x1 : Int} {S : MS} {Q : Out → MS → Prop} (h : VX10_mends_0 d Q x0 x1 S) : Mw hX10_mends yX10_mends (d + 1) [vA x0, vI x1] S Q := Mw.ofJ (by decide) (Nat.le_of_ble_eq_true rfl) (JX10_mends_0 _ _ S h)
theorem dX10_nearly_0 : decode cX10_nearly 0 = .ok (.aload_n 0, 1) := by decide +kernel
theorem dX10_nearly_1 : decode cX10_nearly 1 = .ok (.invokevirtual 239, 3) := by decide +kernel
theorem dX10_nearly_4 : decode cX10_nearly 4 = .ok (.istore_n 1, 1) := by decide +kernel
theorem dX10_nearly_5 : decode cX10_nearly 5 = .ok (.aload_n 0, 1) := by decide +kernel
theorem dX10_nearly_6 : decode cX10_nearly 6 = .ok (.invokevirtual 229, 3) := by decide +kernel
theorem dX10_nearly_9 : decode cX10_nearly 9 = .ok (.aload_n 0, 1) := by decide +kernel
theorem dX10_nearly_10 : decode cX10_nearly 10 = .ok (.invokevirtual 214, 3) := by decide +kernel
theorem dX10_nearly_13 : decode cX10_nearly 13 = .ok (.iload_n 1, 1) := by decide +kernel
theorem dX10_nearly_14 : decode cX10_nearly 14 = .ok (.invokevirtual 301, 3) := by decide +kernel
theorem dX10_nearly_17 : decode cX10_nearly 17 = .ok (.ireturn, 1) := by decide +kernel
def VX10_nearly_0 (d : Nat) (Q : Out → MS → Prop) (x0 : Nat) (S : MS) : Prop :=
  S.K x0 = 10 ∧ Mw hX10_toldRow yX10_toldRow d [vA x0] S (xI (fun r1 S1 => S1.K x0 = 10 ∧ Mw hX10_allRows yX10_allRows d [vA x0] S1 (oA (fun r2 S2 => S2.K x0 = 10 ∧ Mw hX10_rowsLeft yX10_rowsLeft d [vA x0] S2 (oA (fun r3 S3 => S3.K r2 = 0 ∧ Mw hX0_fewestSwaps yX0_fewestSwaps d [vA r2, vA r3, vI r1] S3 (oI (fun r4 S4 => Q (.inl (some (vI r4))) S4))))))) (fun E S9 => Q (.inr E) S9))
theorem JX10_nearly_0 {d : Nat} {S0 : MS} {Q : Out → MS → Prop} (x0 : Nat) (S : MS) (h : VX10_nearly_0 d Q x0 S) : Jw FinM RX10 cX10_nearly 2 (some .int) [] yX10_nearly (d + 1) S0 S 0 [(0, vA x0)] [] Q :=
  j_aload_n 0 dX10_nearly_0 rfl (j_callV (rest := []) 10 [] k_RX10_239 ⟨w_5_184, p_3_0⟩ ⟨_, _, rfl⟩ (by decide) rfl rfl (Nat.le_of_ble_eq_true rfl) dX10_nearly_1 h (kI (fun r1 S1 h => j_istore_n (lv2 := [(1, vI r1), (0, vA x0)]) dX10_nearly_4 (by decide) rfl (j_aload_n 1 dX10_nearly_5 rfl (j_callV (rest := []) 10 [] k_RX10_229 ⟨w_2_61, p_1_1⟩ ⟨_, _, rfl⟩ (by decide) rfl rfl (Nat.le_of_ble_eq_true rfl) dX10_nearly_6 h (kA (fun r2 S2 h => j_aload_n 1 dX10_nearly_9 rfl (j_callV (rest := [vA r2]) 10 [] k_RX10_214 ⟨w_2_57, p_1_0⟩ ⟨_, _, rfl⟩ (by decide) rfl rfl (Nat.le_of_ble_eq_true rfl) dX10_nearly_10 h (kA (fun r3 S3 h => j_iload_n 0 dX10_nearly_13 rfl (j_callV (rest := []) 0 [vA r3, vI r1] k_RX10_301 ⟨w_6_8, w_6_9⟩ ⟨_, _, rfl⟩ (by decide) rfl rfl (Nat.le_of_ble_eq_true rfl) dX10_nearly_14 h (kI (fun r4 S4 h => j_iret rfl dX10_nearly_17 h)) (fun _ _ h => h.elim)))) (fun _ _ h => h.elim)))) (fun _ _ h => h.elim))))) (fun _ _ h => jx_out h))
theorem MX10_nearly {d : Nat} {x0 : Nat} {S : MS} {Q : Out → MS → Prop} (h : VX10_nearly_0 d Q x0 S) : Mw hX10_nearly yX10_nearly (d + 1) [vA x0] S Q := Mw.ofJ (by decide) (Nat.le_of_ble_eq_true rfl) (JX10_nearly_0 _ S h)
theorem dX10_votes_0 : decode cX10_votes 0 = .ok (.aload_n 0, 1) := by decide +kernel
theorem dX10_votes_1 : decode cX10_votes 1 = .ok (.iload_n 1, 1) := by decide +kernel
theorem dX10_votes_2 : decode cX10_votes 2 = .ok (.invokevirtual 248, 3) := by decide +kernel
theorem dX10_votes_5 : decode cX10_votes 5 = .ok (.iconst (-1), 1) := by decide +kernel
theorem dX10_votes_6 : decode cX10_votes 6 = .ok (.istore_n 2, 1) := by decide +kernel
theorem dX10_votes_7 : decode cX10_votes 7 = .ok (.iconst 0, 1) := by decide +kernel
theorem dX10_votes_8 : decode cX10_votes 8 = .ok (.istore_n 3, 1) := by decide +kernel
theorem dX10_votes_9 : decode cX10_votes 9 = .ok (.iconst 0, 1) := by decide +kernel
theorem dX10_votes_10 : decode cX10_votes 10 = .ok (.istore 4, 2) := by decide +kernel
theorem dX10_votes_12 : decode cX10_votes 12 = .ok (.iload 4, 2) := by decide +kernel
theorem dX10_votes_14 : decode cX10_votes 14 = .ok (.aload_n 0, 1) := by decide +kernel
theorem dX10_votes_15 : decode cX10_votes 15 = .ok (.getfield 24, 3) := by decide +kernel
theorem dX10_votes_18 : decode cX10_votes 18 = .ok (.getfield 261, 3) := by decide +kernel
theorem dX10_votes_21 : decode cX10_votes 21 = .ok (.if_icmp .ge 44, 3) := by decide +kernel
theorem dX10_votes_24 : decode cX10_votes 24 = .ok (.aload_n 0, 1) := by decide +kernel
theorem dX10_votes_25 : decode cX10_votes 25 = .ok (.getfield 24, 3) := by decide +kernel
theorem dX10_votes_28 : decode cX10_votes 28 = .ok (.iload_n 1, 1) := by decide +kernel
theorem dX10_votes_29 : decode cX10_votes 29 = .ok (.iload 4, 2) := by decide +kernel
theorem dX10_votes_31 : decode cX10_votes 31 = .ok (.invokevirtual 304, 3) := by decide +kernel
theorem dX10_votes_34 : decode cX10_votes 34 = .ok (.istore 5, 2) := by decide +kernel
theorem dX10_votes_36 : decode cX10_votes 36 = .ok (.iload 5, 2) := by decide +kernel
theorem dX10_votes_38 : decode cX10_votes 38 = .ok (.iload_n 3, 1) := by decide +kernel
theorem dX10_votes_39 : decode cX10_votes 39 = .ok (.if_icmp .le 12, 3) := by decide +kernel
theorem dX10_votes_42 : decode cX10_votes 42 = .ok (.iload 5, 2) := by decide +kernel
theorem dX10_votes_44 : decode cX10_votes 44 = .ok (.istore_n 3, 1) := by decide +kernel
theorem dX10_votes_45 : decode cX10_votes 45 = .ok (.iload 4, 2) := by decide +kernel
theorem dX10_votes_47 : decode cX10_votes 47 = .ok (.istore_n 2, 1) := by decide +kernel
theorem dX10_votes_48 : decode cX10_votes 48 = .ok (.goto 11, 3) := by decide +kernel
theorem dX10_votes_51 : decode cX10_votes 51 = .ok (.iload 5, 2) := by decide +kernel
theorem dX10_votes_53 : decode cX10_votes 53 = .ok (.iload_n 3, 1) := by decide +kernel
theorem dX10_votes_54 : decode cX10_votes 54 = .ok (.if_icmp .ne 5, 3) := by decide +kernel
theorem dX10_votes_57 : decode cX10_votes 57 = .ok (.iconst (-1), 1) := by decide +kernel
theorem dX10_votes_58 : decode cX10_votes 58 = .ok (.istore_n 2, 1) := by decide +kernel
theorem dX10_votes_59 : decode cX10_votes 59 = .ok (.iinc 4 1, 3) := by decide +kernel
theorem dX10_votes_62 : decode cX10_votes 62 = .ok (.goto (-50), 3) := by decide +kernel
theorem dX10_votes_65 : decode cX10_votes 65 = .ok (.iload_n 2, 1) := by decide +kernel
theorem dX10_votes_66 : decode cX10_votes 66 = .ok (.ireturn, 1) := by decide +kernel
def VX10_votes_59 (d : Nat) (c12 : Nat → Int → Int → Int → Int → MS → Prop) (Q : Out → MS → Prop) (x0 : Nat) (x1 : Int) (x2 : Int) (x3 : Int) (x4 : Int) (S : MS) : Prop :=
  c12 x0 x1 x2 x3 (x4 + 1) S
theorem JX10_votes_59 {d : Nat} {c12 : Nat → Int → Int → Int → Int → MS → Prop} {S0 : MS} {Q : Out → MS → Prop} (hc12 : ∀ (x0 : Nat) (x1 : Int) (x2 : Int) (x3 : Int) (x4 : Int) (S : MS), c12 x0 x1 x2 x3 x4 S → Jw FinM RX10 cX10_votes 6 (some .int) [] yX10_votes (d + 1) S0 S 12 [(0, vA x0), (1, vI x1), (2, vI x2), (3, vI x3), (4, vI x4)] [] Q) (x0 : Nat) (x1 : Int) (x2 : Int) (x3 : Int) (x4 : Int) (S : MS) (h : VX10_votes_59 d c12 Q x0 x1 x2 x3 x4 S) : Jw FinM RX10 cX10_votes 6 (some .int) [] yX10_votes (d + 1) S0 S 59 [(0, vA x0), (1, vI x1), (2, vI x2), (3, vI x3), (4, vI x4)] [] Q :=
  j_iinc 4 (lv2 := [(4, vI (x4 + 1)), (0, vA x0), (1, vI x1), (2, vI x2), (3, vI x3)]) dX10_votes_59 rfl (by decide) rfl (j_goto (tgt := 12) dX10_votes_62 (by decide) (j_sub [1, 2, 3, 4, 0] rfl (hc12 _ _ _ _ _ _ h)))
def VX10_votes_12 (d : Nat) (Q : Out → MS → Prop) : Nat → Nat → Int → Int → Int → Int → MS → Prop
  | 0, _, _, _, _, _, _ => False
  | n + 1, x0, x1, x2, x3, x4, S => S.K x0 = 10 ∧ ∃ b1, S.R x0 2 = some b1 ∧ (S.K b1 = 7 ∧ ((R32 x4 ∧ R32 (S.I b1 7)) ∧ (((S.I b1 7) ≤ x4) → Q (.inl (some (vI x2))) S) ∧ (¬ ((S.I b1 7) ≤ x4) → S.K x0 = 10 ∧ ∃ b2, S.R x0 2 = some b2 ∧ (S.K b2 = 7 ∧ Mw hX7_timesRisen yX7_timesRisen d [vA b2, vI x1, vI x4] S (oI (fun r3 S3 => (R32 r3 ∧ R32 x3) ∧ ((r3 ≤ x3) → (R32 r3 ∧ R32 x3) ∧ (¬ (r3 = x3) → VX10_votes_59 d (VX10_votes_12 d Q n) Q x0 x1 x2 x3 x4 S3) ∧ ((r3 = x3) → VX10_votes_59 d (VX10_votes_12 d Q n) Q x0 x1 ((-1)) x3 x4 S3)) ∧ (¬ (r3 ≤ x3) → VX10_votes_59 d (VX10_votes_12 d Q n) Q x0 x1 x4 r3 x4 S3)))))))
theorem JX10_votes_12 {d : Nat} {S0 : MS} {Q : Out → MS → Prop} : ∀ (n : Nat) (x0 : Nat) (x1 : Int) (x2 : Int) (x3 : Int) (x4 : Int) (S : MS), VX10_votes_12 d Q n x0 x1 x2 x3 x4 S → Jw FinM RX10 cX10_votes 6 (some .int) [] yX10_votes (d + 1) S0 S 12 [(0, vA x0), (1, vI x1), (2, vI x2), (3, vI x3), (4, vI x4)] [] Q := by
  intro n
  induction n with
  | zero => intro x0 x1 x2 x3 x4 S h; exact h.elim
  | succ n ih =>
    intro x0 x1 x2 x3 x4 S h
    exact j_iload 4 dX10_votes_12 rfl (j_aload_n 0 dX10_votes_14 rfl (j_getR 10 2 f_RX10_24 dX10_votes_15 h (fun b1 h => j_getI 7 7 f_RX10_261 dX10_votes_18 h (fun h => j_icmp_ge (tgt := 65) dX10_votes_21 (by decide) h (fun h => j_iload_n 2 dX10_votes_65 rfl (j_iret rfl dX10_votes_66 h)) (fun h => j_aload_n 0 dX10_votes_24 rfl (j_getR 10 2 f_RX10_24 dX10_votes_25 h (fun b2 h => j_iload_n 1 dX10_votes_28 rfl (j_iload 4 dX10_votes_29 rfl (j_callV (rest := []) 7 [vI x1, vI x4] k_RX10_304 ⟨w_6_23, w_6_24⟩ ⟨_, _, rfl⟩ (by decide) rfl rfl (Nat.le_of_ble_eq_true rfl) dX10_votes_31 h (kI (fun r3 S3 h => j_istore (lv2 := [(5, vI r3), (0, vA x0), (1, vI x1), (2, vI x2), (3, vI x3), (4, vI x4)]) dX10_votes_34 (by decide) rfl (j_iload 0 dX10_votes_36 rfl (j_iload_n 4 dX10_votes_38 rfl (j_icmp_le (tgt := 51) dX10_votes_39 (by decide) h (fun h => j_iload 0 dX10_votes_51 rfl (j_iload_n 4 dX10_votes_53 rfl (j_icmp_ne (tgt := 59) dX10_votes_54 (by decide) h (fun h => j_sub [1, 2, 3, 4, 5] rfl (JX10_votes_59 ih _ _ _ _ _ _ h)) (fun h => j_iconst dX10_votes_57 (j_istore_n (lv2 := [(2, vI ((-1))), (5, vI r3), (0, vA x0), (1, vI x1), (3, vI x3), (4, vI x4)]) dX10_votes_58 (by decide) rfl (j_sub [2, 3, 0, 4, 5] rfl (JX10_votes_59 ih _ _ _ _ _ _ h))))))) (fun h => j_iload 0 dX10_votes_42 rfl (j_istore_n (lv2 := [(3, vI r3), (5, vI r3), (0, vA x0), (1, vI x1), (2, vI x2), (4, vI x4)]) dX10_votes_44 (by decide) rfl (j_iload 5 dX10_votes_45 rfl (j_istore_n (lv2 := [(2, vI x4), (3, vI r3), (5, vI r3), (0, vA x0), (1, vI x1), (4, vI x4)]) dX10_votes_47 (by decide) rfl (j_goto (tgt := 59) dX10_votes_48 (by decide) (j_sub [3, 4, 0, 1, 5] rfl (JX10_votes_59 ih _ _ _ _ _ _ h)))))))))))) (fun _ _ h => h.elim))))))))))
def VX10_votes_0 (d : Nat) (Q : Out → MS → Prop) (x0 : Nat) (x1 : Int) (S : MS) : Prop :=
  S.K x0 = 10 ∧ Mw hX10_needThree yX10_needThree d [vA x0, vI x1] S (xV (fun S1 => ∃ m, VX10_votes_12 d Q m x0 x1 ((-1)) 0 0 S1) (fun E S9 => Q (.inr E) S9))
theorem JX10_votes_0 {d : Nat} {S0 : MS} {Q : Out → MS → Prop} (x0 : Nat) (x1 : Int) (S : MS) (h : VX10_votes_0 d Q x0 x1 S) : Jw FinM RX10 cX10_votes 6 (some .int) [] yX10_votes (d + 1) S0 S 0 [(0, vA x0), (1, vI x1)] [] Q :=
  j_aload_n 0 dX10_votes_0 rfl (j_iload_n 1 dX10_votes_1 rfl (j_callV (rest := []) 10 [vI x1] k_RX10_248 ⟨w_5_204, p_3_1⟩ ⟨_, _, rfl⟩ (by decide) rfl rfl (Nat.le_of_ble_eq_true rfl) dX10_votes_2 h (kV (fun S1 h => j_iconst dX10_votes_5 (j_istore_n (lv2 := [(2, vI ((-1))), (0, vA x0), (1, vI x1)]) dX10_votes_6 (by decide) rfl (j_iconst dX10_votes_7 (j_istore_n (lv2 := [(3, vI 0), (2, vI ((-1))), (0, vA x0), (1, vI x1)]) dX10_votes_8 (by decide) rfl (j_iconst dX10_votes_9 (j_istore (lv2 := [(4, vI 0), (3, vI 0), (2, vI ((-1))), (0, vA x0), (1, vI x1)]) dX10_votes_10 (by decide) rfl (Exists.elim h (fun m h => j_sub [3, 4, 2, 1, 0] rfl (JX10_votes_12 m _ _ _ _ _ _ h)))))))))) (fun _ _ h => jx_out h)))
theorem MX10_votes {d : Nat} {x0 : Nat} {x1 : Int} {S : MS} {Q : Out → MS → Prop} (h : VX10_votes_0 d Q x0 x1 S) : Mw hX10_votes yX10_votes (d + 1) [vA x0, vI x1] S Q := Mw.ofJ (by decide) (Nat.le_of_ble_eq_true rfl) (JX10_votes_0 _ _ S h)
theorem dX10_laying_0 : decode cX10_laying 0 = .ok (.aload_n 0, 1) := by decide +kernel
theorem dX10_laying_1 : decode cX10_laying 1 = .ok (.iload_n 1, 1) := by decide +kernel
theorem dX10_laying_2 : decode cX10_laying 2 = .ok (.invokevirtual 166, 3) := by decide +kernel
theorem dX10_laying_5 : decode cX10_laying 5 = .ok (.aload_n 0, 1) := by decide +kernel
theorem dX10_laying_6 : decode cX10_laying 6 = .ok (.iload_n 1, 1) := by decide +kernel
theorem dX10_laying_7 : decode cX10_laying 7 = .ok (.iload_n 2, 1) := by decide +kernel
theorem dX10_laying_8 : decode cX10_laying 8 = .ok (.invokevirtual 169, 3) := by decide +kernel
theorem dX10_laying_11 : decode cX10_laying 11 = .ok (.aload_n 0, 1) := by decide +kernel
theorem dX10_laying_12 : decode cX10_laying 12 = .ok (.iload_n 1, 1) := by decide +kernel
theorem dX10_laying_13 : decode cX10_laying 13 = .ok (.invokevirtual 307, 3) := by decide +kernel
theorem dX10_laying_16 : decode cX10_laying 16 = .ok (.astore 4, 2) := by decide +kernel
theorem dX10_laying_18 : decode cX10_laying 18 = .ok (.aload 4, 2) := by decide +kernel
theorem dX10_laying_20 : decode cX10_laying 20 = .ok (.aload_n 0, 1) := by decide +kernel
theorem dX10_laying_21 : decode cX10_laying 21 = .ok (.invokevirtual 214, 3) := by decide +kernel
theorem dX10_laying_24 : decode cX10_laying 24 = .ok (.aload 4, 2) := by decide +kernel
theorem dX10_laying_26 : decode cX10_laying 26 = .ok (.iload_n 2, 1) := by decide +kernel
theorem dX10_laying_27 : decode cX10_laying 27 = .ok (.invokevirtual 311, 3) := by decide +kernel
theorem dX10_laying_30 : decode cX10_laying 30 = .ok (.invokevirtual 316, 3) := by decide +kernel
theorem dX10_laying_33 : decode cX10_laying 33 = .ok (.iload_n 3, 1) := by decide +kernel
theorem dX10_laying_34 : decode cX10_laying 34 = .ok (.ifCond .eq 11, 3) := by decide +kernel
theorem dX10_laying_37 : decode cX10_laying 37 = .ok (.aload 4, 2) := by decide +kernel
theorem dX10_laying_39 : decode cX10_laying 39 = .ok (.getfield 320, 3) := by decide +kernel
theorem dX10_laying_42 : decode cX10_laying 42 = .ok (.goto 8, 3) := by decide +kernel
theorem dX10_laying_45 : decode cX10_laying 45 = .ok (.aload 4, 2) := by decide +kernel
theorem dX10_laying_47 : decode cX10_laying 47 = .ok (.getfield 323, 3) := by decide +kernel
theorem dX10_laying_50 : decode cX10_laying 50 = .ok (.ireturn, 1) := by decide +kernel
def VX10_laying_0 (d : Nat) (Q : Out → MS → Prop) (x0 : Nat) (x1 : Int) (x2 : Int) (x3 : Int) (S : MS) : Prop :=
  S.K x0 = 10 ∧ Mw hX10_needScale yX10_needScale d [vA x0, vI x1] S (xV (fun S1 => S1.K x0 = 10 ∧ Mw hX10_needLoad yX10_needLoad d [vA x0, vI x1, vI x2] S1 (xV (fun S2 => S2.K x0 = 10 ∧ Mw hX10_layingsOf yX10_layingsOf d [vA x0, vI x1] S2 (oA (fun r3 S3 => S3.K x0 = 10 ∧ Mw hX10_rowsLeft yX10_rowsLeft d [vA x0] S3 (oA (fun r4 S4 => S4.K r3 = 2 ∧ Mw hX2_indexOf yX2_indexOf d [vA r3, vI x2] S4 (oI (fun r5 S5 => S5.K r3 = 2 ∧ Mw hX2_measure yX2_measure d [vA r3, vA r4, vI r5] S5 (oV (fun S6 => R32 x3 ∧ ((x3 = 0) → S6.K r3 = 2 ∧ (Q (.inl (some (vI (S6.I r3 2)))) S6)) ∧ (¬ (x3 = 0) → S6.K r3 = 2 ∧ (Q (.inl (some (vI (S6.I r3 3)))) S6))))))))))) (fun E S9 => Q (.inr E) S9))) (fun E S9 => Q (.inr E) S9))
theorem JX10_laying_0 {d : Nat} {S0 : MS} {Q : Out → MS → Prop} (x0 : Nat) (x1 : Int) (x2 : Int) (x3 : Int) (S : MS) (h : VX10_laying_0 d Q x0 x1 x2 x3 S) : Jw FinM RX10 cX10_laying 5 (some .int) [] yX10_laying (d + 1) S0 S 0 [(0, vA x0), (1, vI x1), (2, vI x2), (3, vI x3)] [] Q :=
  j_aload_n 0 dX10_laying_0 rfl (j_iload_n 1 dX10_laying_1 rfl (j_callV (rest := []) 10 [vI x1] k_RX10_166 ⟨w_5_99, p_2_13⟩ ⟨_, _, rfl⟩ (by decide) rfl rfl (Nat.le_of_ble_eq_true rfl) dX10_laying_2 h (kV (fun S1 h => j_aload_n 0 dX10_laying_5 rfl (j_iload_n 1 dX10_laying_6 rfl (j_iload_n 2 dX10_laying_7 rfl (j_callV (rest := []) 10 [vI x1, vI x2] k_RX10_169 ⟨w_5_104, p_2_14⟩ ⟨_, _, rfl⟩ (by decide) rfl rfl (Nat.le_of_ble_eq_true rfl) dX10_laying_8 h (kV (fun S2 h => j_aload_n 0 dX10_laying_11 rfl (j_iload_n 1 dX10_laying_12 rfl (j_callV (rest := []) 10 [vI x1] k_RX10_307 ⟨w_6_35, p_3_5⟩ ⟨_, _, rfl⟩ (by decide) rfl rfl (Nat.le_of_ble_eq_true rfl) dX10_laying_13 h (kA (fun r3 S3 h => j_astore (lv2 := [(4, vA r3), (0, vA x0), (1, vI x1), (2, vI x2), (3, vI x3)]) dX10_laying_16 (by decide) rfl (j_aload 0 dX10_laying_18 rfl (j_aload_n 1 dX10_laying_20 rfl (j_callV (rest := [vA r3]) 10 [] k_RX10_214 ⟨w_2_57, p_1_0⟩ ⟨_, _, rfl⟩ (by decide) rfl rfl (Nat.le_of_ble_eq_true rfl) dX10_laying_21 h (kA (fun r4 S4 h => j_aload 0 dX10_laying_24 rfl (j_iload_n 3 dX10_laying_26 rfl (j_callV (rest := [vA r4, vA r3]) 2 [vI x2] k_RX10_311 ⟨w_2_229, w_2_230⟩ ⟨_, _, rfl⟩ (by decide) rfl rfl (Nat.le_of_ble_eq_true rfl) dX10_laying_27 h (kI (fun r5 S5 h => j_callV (rest := []) 2 [vA r4, vI r5] k_RX10_316 ⟨w_3_195, w_3_196⟩ ⟨_, _, rfl⟩ (by decide) rfl rfl (Nat.le_of_ble_eq_true rfl) dX10_laying_30 h (kV (fun S6 h => j_iload_n 4 dX10_laying_33 rfl (j_if_eq (tgt := 45) dX10_laying_34 (by decide) h (fun h => j_aload 0 dX10_laying_45 rfl (j_getI 2 2 f_RX10_323 dX10_laying_47 h (fun h => j_iret rfl dX10_laying_50 h))) (fun h => j_aload 0 dX10_laying_37 rfl (j_getI 2 3 f_RX10_320 dX10_laying_39 h (fun h => j_goto (tgt := 50) dX10_laying_42 (by decide) (j_iret rfl dX10_laying_50 h))))))) (fun _ _ h => h.elim))) (fun _ _ h => h.elim))))) (fun _ _ h => h.elim)))))) (fun _ _ h => h.elim))))) (fun _ _ h => jx_out h)))))) (fun _ _ h => jx_out h)))
theorem MX10_laying {d : Nat} {x0 : Nat} {x1 : Int} {x2 : Int} {x3 : Int} {S : MS} {Q : Out → MS → Prop} (h : VX10_laying_0 d Q x0 x1 x2 x3 S) : Mw hX10_laying yX10_laying (d + 1) [vA x0, vI x1, vI x2, vI x3] S Q := Mw.ofJ (by decide) (Nat.le_of_ble_eq_true rfl) (JX10_laying_0 _ _ _ _ S h)
theorem dX10_next_0 : decode cX10_next 0 = .ok (.aload_n 0, 1) := by decide +kernel
theorem dX10_next_1 : decode cX10_next 1 = .ok (.iload_n 1, 1) := by decide +kernel
theorem dX10_next_2 : decode cX10_next 2 = .ok (.invokevirtual 166, 3) := by decide +kernel
theorem dX10_next_5 : decode cX10_next 5 = .ok (.aload_n 0, 1) := by decide +kernel
theorem dX10_next_6 : decode cX10_next 6 = .ok (.iload_n 1, 1) := by decide +kernel
theorem dX10_next_7 : decode cX10_next 7 = .ok (.invokevirtual 307, 3) := by decide +kernel
theorem dX10_next_10 : decode cX10_next 10 = .ok (.astore_n 2, 1) := by decide +kernel
theorem dX10_next_11 : decode cX10_next 11 = .ok (.aload_n 2, 1) := by decide +kernel
theorem dX10_next_12 : decode cX10_next 12 = .ok (.aload_n 2, 1) := by decide +kernel
theorem dX10_next_13 : decode cX10_next 13 = .ok (.aload_n 0, 1) := by decide +kernel
theorem dX10_next_14 : decode cX10_next 14 = .ok (.invokevirtual 214, 3) := by decide +kernel
theorem dX10_next_17 : decode cX10_next 17 = .ok (.invokevirtual 326, 3) := by decide +kernel
theorem dX10_next_20 : decode cX10_next 20 = .ok (.invokevirtual 330, 3) := by decide +kernel
theorem dX10_next_23 : decode cX10_next 23 = .ok (.ireturn, 1) := by decide +kernel
def VX10_next_0 (d : Nat) (Q : Out → MS → Prop) (x0 : Nat) (x1 : Int) (S : MS) : Prop :=
  S.K x0 = 10 ∧ Mw hX10_needScale yX10_needScale d [vA x0, vI x1] S (xV (fun S1 => S1.K x0 = 10 ∧ Mw hX10_layingsOf yX10_layingsOf d [vA x0, vI x1] S1 (oA (fun r2 S2 => S2.K x0 = 10 ∧ Mw hX10_rowsLeft yX10_rowsLeft d [vA x0] S2 (oA (fun r3 S3 => S3.K r2 = 2 ∧ Mw hX2_best yX2_best d [vA r2, vA r3] S3 (oI (fun r4 S4 => S4.K r2 = 2 ∧ Mw hX2_setAt yX2_setAt d [vA r2, vI r4] S4 (oI (fun r5 S5 => Q (.inl (some (vI r5))) S5))))))))) (fun E S9 => Q (.inr E) S9))
theorem JX10_next_0 {d : Nat} {S0 : MS} {Q : Out → MS → Prop} (x0 : Nat) (x1 : Int) (S : MS) (h : VX10_next_0 d Q x0 x1 S) : Jw FinM RX10 cX10_next 3 (some .int) [] yX10_next (d + 1) S0 S 0 [(0, vA x0), (1, vI x1)] [] Q :=
  j_aload_n 0 dX10_next_0 rfl (j_iload_n 1 dX10_next_1 rfl (j_callV (rest := []) 10 [vI x1] k_RX10_166 ⟨w_5_99, p_2_13⟩ ⟨_, _, rfl⟩ (by decide) rfl rfl (Nat.le_of_ble_eq_true rfl) dX10_next_2 h (kV (fun S1 h => j_aload_n 0 dX10_next_5 rfl (j_iload_n 1 dX10_next_6 rfl (j_callV (rest := []) 10 [vI x1] k_RX10_307 ⟨w_6_35, p_3_5⟩ ⟨_, _, rfl⟩ (by decide) rfl rfl (Nat.le_of_ble_eq_true rfl) dX10_next_7 h (kA (fun r2 S2 h => j_astore_n (lv2 := [(2, vA r2), (0, vA x0), (1, vI x1)]) dX10_next_10 (by decide) rfl (j_aload_n 0 dX10_next_11 rfl (j_aload_n 0 dX10_next_12 rfl (j_aload_n 1 dX10_next_13 rfl (j_callV (rest := [vA r2, vA r2]) 10 [] k_RX10_214 ⟨w_2_57, p_1_0⟩ ⟨_, _, rfl⟩ (by decide) rfl rfl (Nat.le_of_ble_eq_true rfl) dX10_next_14 h (kA (fun r3 S3 h => j_callV (rest := [vA r2]) 2 [vA r3] k_RX10_326 ⟨w_3_187, w_3_188⟩ ⟨_, _, rfl⟩ (by decide) rfl rfl (Nat.le_of_ble_eq_true rfl) dX10_next_17 h (kI (fun r4 S4 h => j_callV (rest := []) 2 [vI r4] k_RX10_330 ⟨w_6_48, w_6_49⟩ ⟨_, _, rfl⟩ (by decide) rfl rfl (Nat.le_of_ble_eq_true rfl) dX10_next_20 h (kI (fun r5 S5 h => j_iret rfl dX10_next_23 h)) (fun _ _ h => h.elim))) (fun _ _ h => h.elim))) (fun _ _ h => h.elim))))))) (fun _ _ h => h.elim))))) (fun _ _ h => jx_out h)))
theorem MX10_next {d : Nat} {x0 : Nat} {x1 : Int} {S : MS} {Q : Out → MS → Prop} (h : VX10_next_0 d Q x0 x1 S) : Mw hX10_next yX10_next (d + 1) [vA x0, vI x1] S Q := Mw.ofJ (by decide) (Nat.le_of_ble_eq_true rfl) (JX10_next_0 _ _ S h)
theorem dX10_fewest_0 : decode cX10_fewest 0 = .ok (.aload_n 0, 1) := by decide +kernel
theorem dX10_fewest_1 : decode cX10_fewest 1 = .ok (.iload_n 1, 1) := by decide +kernel
theorem dX10_fewest_2 : decode cX10_fewest 2 = .ok (.invokevirtual 166, 3) := by decide +kernel
theorem dX10_fewest_5 : decode cX10_fewest 5 = .ok (.aload_n 0, 1) := by decide +kernel
theorem dX10_fewest_6 : decode cX10_fewest 6 = .ok (.invokevirtual 214, 3) := by decide +kernel
theorem dX10_fewest_9 : decode cX10_fewest 9 = .ok (.astore_n 2, 1) := by decide +kernel
theorem dX10_fewest_10 : decode cX10_fewest 10 = .ok (.bipush 9, 2) := by decide +kernel
theorem dX10_fewest_12 : decode cX10_fewest 12 = .ok (.aload_n 0, 1) := by decide +kernel
theorem dX10_fewest_13 : decode cX10_fewest 13 = .ok (.getfield 24, 3) := by decide +kernel
theorem dX10_fewest_16 : decode cX10_fewest 16 = .ok (.getfield 173, 3) := by decide +kernel
theorem dX10_fewest_19 : decode cX10_fewest 19 = .ok (.iload_n 1, 1) := by decide +kernel
theorem dX10_fewest_20 : decode cX10_fewest 20 = .ok (.iaload, 1) := by decide +kernel
theorem dX10_fewest_21 : decode cX10_fewest 21 = .ok (.iadd, 1) := by decide +kernel
theorem dX10_fewest_22 : decode cX10_fewest 22 = .ok (.istore_n 3, 1) := by decide +kernel
theorem dX10_fewest_23 : decode cX10_fewest 23 = .ok (.aload_n 0, 1) := by decide +kernel
theorem dX10_fewest_24 : decode cX10_fewest 24 = .ok (.getfield 76, 3) := by decide +kernel
theorem dX10_fewest_27 : decode cX10_fewest 27 = .ok (.iload_n 3, 1) := by decide +kernel
theorem dX10_fewest_28 : decode cX10_fewest 28 = .ok (.iaload, 1) := by decide +kernel
theorem dX10_fewest_29 : decode cX10_fewest 29 = .ok (.bipush (-3), 2) := by decide +kernel
theorem dX10_fewest_31 : decode cX10_fewest 31 = .ok (.if_icmp .ne 30, 3) := by decide +kernel
theorem dX10_fewest_34 : decode cX10_fewest 34 = .ok (.aload_n 0, 1) := by decide +kernel
theorem dX10_fewest_35 : decode cX10_fewest 35 = .ok (.getfield 76, 3) := by decide +kernel
theorem dX10_fewest_38 : decode cX10_fewest 38 = .ok (.iload_n 3, 1) := by decide +kernel
theorem dX10_fewest_39 : decode cX10_fewest 39 = .ok (.aload_n 0, 1) := by decide +kernel
theorem dX10_fewest_40 : decode cX10_fewest 40 = .ok (.getfield 65, 3) := by decide +kernel
theorem dX10_fewest_43 : decode cX10_fewest 43 = .ok (.aload_n 0, 1) := by decide +kernel
theorem dX10_fewest_44 : decode cX10_fewest 44 = .ok (.invokevirtual 229, 3) := by decide +kernel
theorem dX10_fewest_47 : decode cX10_fewest 47 = .ok (.aload_n 0, 1) := by decide +kernel
theorem dX10_fewest_48 : decode cX10_fewest 48 = .ok (.iload_n 1, 1) := by decide +kernel
theorem dX10_fewest_49 : decode cX10_fewest 49 = .ok (.invokevirtual 307, 3) := by decide +kernel
theorem dX10_fewest_52 : decode cX10_fewest 52 = .ok (.aload_n 2, 1) := by decide +kernel
theorem dX10_fewest_53 : decode cX10_fewest 53 = .ok (.aload_n 0, 1) := by decide +kernel
theorem dX10_fewest_54 : decode cX10_fewest 54 = .ok (.getfield 51, 3) := by decide +kernel
theorem dX10_fewest_57 : decode cX10_fewest 57 = .ok (.invokevirtual 333, 3) := by decide +kernel
theorem dX10_fewest_60 : decode cX10_fewest 60 = .ok (.iastore, 1) := by decide +kernel
theorem dX10_fewest_61 : decode cX10_fewest 61 = .ok (.aload_n 0, 1) := by decide +kernel
theorem dX10_fewest_62 : decode cX10_fewest 62 = .ok (.getfield 76, 3) := by decide +kernel
theorem dX10_fewest_65 : decode cX10_fewest 65 = .ok (.iload_n 3, 1) := by decide +kernel
theorem dX10_fewest_66 : decode cX10_fewest 66 = .ok (.iaload, 1) := by decide +kernel
theorem dX10_fewest_67 : decode cX10_fewest 67 = .ok (.ireturn, 1) := by decide +kernel
def VX10_fewest_61 (d : Nat) (Q : Out → MS → Prop) (x0 : Nat) (x3 : Int) (S : MS) : Prop :=
  S.K x0 = 10 ∧ ∃ b1, S.R x0 11 = some b1 ∧ ((S.K b1 = 13 ∧ 0 ≤ x3 ∧ x3 < S.N b1) ∧ (Q (.inl (some (vI (S.I b1 (x3).toNat)))) S))
theorem JX10_fewest_61 {d : Nat} {S0 : MS} {Q : Out → MS → Prop} (x0 : Nat) (x3 : Int) (S : MS) (h : VX10_fewest_61 d Q x0 x3 S) : Jw FinM RX10 cX10_fewest 4 (some .int) [] yX10_fewest (d + 1) S0 S 61 [(0, vA x0), (3, vI x3)] [] Q :=
  j_aload_n 0 dX10_fewest_61 rfl (j_getR 10 11 f_RX10_76 dX10_fewest_62 h (fun b1 h => j_iload_n 1 dX10_fewest_65 rfl (j_iald dX10_fewest_66 h (fun h => j_iret rfl dX10_fewest_67 h))))
def VX10_fewest_0 (d : Nat) (Q : Out → MS → Prop) (x0 : Nat) (x1 : Int) (S : MS) : Prop :=
  S.K x0 = 10 ∧ Mw hX10_needScale yX10_needScale d [vA x0, vI x1] S (xV (fun S1 => S1.K x0 = 10 ∧ Mw hX10_rowsLeft yX10_rowsLeft d [vA x0] S1 (oA (fun r2 S2 => S2.K x0 = 10 ∧ ∃ b3, S2.R x0 2 = some b3 ∧ (S2.K b3 = 7 ∧ ∃ b4, S2.R b3 1 = some b4 ∧ ((S2.K b4 = 13 ∧ 0 ≤ x1 ∧ x1 < S2.N b4) ∧ (S2.K x0 = 10 ∧ ∃ b5, S2.R x0 11 = some b5 ∧ ((S2.K b5 = 13 ∧ 0 ≤ (9 + (S2.I b4 (x1).toNat)) ∧ (9 + (S2.I b4 (x1).toNat)) < S2.N b5) ∧ ((R32 (S2.I b5 ((9 + (S2.I b4 (x1).toNat))).toNat) ∧ R32 ((-3) : Int)) ∧ (¬ ((S2.I b5 ((9 + (S2.I b4 (x1).toNat))).toNat) = ((-3) : Int)) → VX10_fewest_61 d Q x0 (9 + (S2.I b4 (x1).toNat)) S2) ∧ (((S2.I b5 ((9 + (S2.I b4 (x1).toNat))).toNat) = ((-3) : Int)) → S2.K x0 = 10 ∧ ∃ b6, S2.R x0 11 = some b6 ∧ (S2.K x0 = 10 ∧ ∃ b7, S2.R x0 9 = some b7 ∧ (S2.K x0 = 10 ∧ Mw hX10_allRows yX10_allRows d [vA x0] S2 (oA (fun r8 S8 => S8.K x0 = 10 ∧ Mw hX10_layingsOf yX10_layingsOf d [vA x0, vI x1] S8 (oA (fun r9 S9 => S9.K x0 = 10 ∧ ∃ b10, S9.R x0 7 = some b10 ∧ (S9.K b7 = 3 ∧ Mw hX3_leastLayings yX3_leastLayings d [vA b7, vA r8, vA r9, vA r2, vA b10] S9 (oI (fun r11 S11 => (S11.K b6 = 13 ∧ 0 ≤ (9 + (S2.I b4 (x1).toNat)) ∧ (9 + (S2.I b4 (x1).toNat)) < S11.N b6) ∧ (VX10_fewest_61 d Q x0 (9 + (S2.I b4 (x1).toNat)) (S11.setI b6 ((9 + (S2.I b4 (x1).toNat))).toNat r11)))))))))))))))))))) (fun E S9 => Q (.inr E) S9))
theorem JX10_fewest_0 {d : Nat} {S0 : MS} {Q : Out → MS → Prop} (x0 : Nat) (x1 : Int) (S : MS) (h : VX10_fewest_0 d Q x0 x1 S) : Jw FinM RX10 cX10_fewest 4 (some .int) [] yX10_fewest (d + 1) S0 S 0 [(0, vA x0), (1, vI x1)] [] Q :=
  j_aload_n 0 dX10_fewest_0 rfl (j_iload_n 1 dX10_fewest_1 rfl (j_callV (rest := []) 10 [vI x1] k_RX10_166 ⟨w_5_99, p_2_13⟩ ⟨_, _, rfl⟩ (by decide) rfl rfl (Nat.le_of_ble_eq_true rfl) dX10_fewest_2 h (kV (fun S1 h => j_aload_n 0 dX10_fewest_5 rfl (j_callV (rest := []) 10 [] k_RX10_214 ⟨w_2_57, p_1_0⟩ ⟨_, _, rfl⟩ (by decide) rfl rfl (Nat.le_of_ble_eq_true rfl) dX10_fewest_6 h (kA (fun r2 S2 h => j_astore_n (lv2 := [(2, vA r2), (0, vA x0), (1, vI x1)]) dX10_fewest_9 (by decide) rfl (j_bipush dX10_fewest_10 rfl (j_aload_n 1 dX10_fewest_12 rfl (j_getR 10 2 f_RX10_24 dX10_fewest_13 h (fun b3 h => j_getR 7 1 f_RX10_173 dX10_fewest_16 h (fun b4 h => j_iload_n 2 dX10_fewest_19 rfl (j_iald dX10_fewest_20 h (fun h => j_iadd dX10_fewest_21 (j_istore_n (lv2 := [(3, vI (9 + (S2.I b4 (x1).toNat))), (2, vA r2), (0, vA x0), (1, vI x1)]) dX10_fewest_22 (by decide) rfl (j_aload_n 2 dX10_fewest_23 rfl (j_getR 10 11 f_RX10_76 dX10_fewest_24 h (fun b5 h => j_iload_n 0 dX10_fewest_27 rfl (j_iald dX10_fewest_28 h (fun h => j_bipush dX10_fewest_29 rfl (j_icmp_ne (tgt := 61) dX10_fewest_31 (by decide) h (fun h => j_sub [2, 0] rfl (JX10_fewest_61 _ _ _ h)) (fun h => j_aload_n 2 dX10_fewest_34 rfl (j_getR 10 11 f_RX10_76 dX10_fewest_35 h (fun b6 h => j_iload_n 0 dX10_fewest_38 rfl (j_aload_n 2 dX10_fewest_39 rfl (j_getR 10 9 f_RX10_65 dX10_fewest_40 h (fun b7 h => j_aload_n 2 dX10_fewest_43 rfl (j_callV (rest := [vA b7, vI (9 + (S2.I b4 (x1).toNat)), vA b6]) 10 [] k_RX10_229 ⟨w_2_61, p_1_1⟩ ⟨_, _, rfl⟩ (by decide) rfl rfl (Nat.le_of_ble_eq_true rfl) dX10_fewest_44 h (kA (fun r8 S8 h => j_aload_n 2 dX10_fewest_47 rfl (j_iload_n 3 dX10_fewest_48 rfl (j_callV (rest := [vA r8, vA b7, vI (9 + (S2.I b4 (x1).toNat)), vA b6]) 10 [vI x1] k_RX10_307 ⟨w_6_35, p_3_5⟩ ⟨_, _, rfl⟩ (by decide) rfl rfl (Nat.le_of_ble_eq_true rfl) dX10_fewest_49 h (kA (fun r9 S9 h => j_aload_n 1 dX10_fewest_52 rfl (j_aload_n 2 dX10_fewest_53 rfl (j_getR 10 7 f_RX10_51 dX10_fewest_54 h (fun b10 h => j_callV (rest := [vI (9 + (S2.I b4 (x1).toNat)), vA b6]) 3 [vA r8, vA r9, vA r2, vA b10] k_RX10_333 ⟨w_6_59, w_6_60⟩ ⟨_, _, rfl⟩ (by decide) rfl rfl (Nat.le_of_ble_eq_true rfl) dX10_fewest_57 h (kI (fun r11 S11 h => j_iast dX10_fewest_60 h (fun h => j_sub [2, 0] rfl (JX10_fewest_61 _ _ _ h)))) (fun _ _ h => h.elim)))))) (fun _ _ h => h.elim))))) (fun _ _ h => h.elim)))))))))))))))))))))))) (fun _ _ h => h.elim)))) (fun _ _ h => jx_out h)))
theorem MX10_fewest {d : Nat} {x0 : Nat} {x1 : Int} {S : MS} {Q : Out → MS → Prop} (h : VX10_fewest_0 d Q x0 x1 S) : Mw hX10_fewest yX10_fewest (d + 1) [vA x0, vI x1] S Q := Mw.ofJ (by decide) (Nat.le_of_ble_eq_true rfl) (JX10_fewest_0 _ _ S h)
theorem dX10_bound_0 : decode cX10_bound 0 = .ok (.aload_n 0, 1) := by decide +kernel
theorem dX10_bound_1 : decode cX10_bound 1 = .ok (.iload_n 1, 1) := by decide +kernel
theorem dX10_bound_2 : decode cX10_bound 2 = .ok (.invokevirtual 166, 3) := by decide +kernel
theorem dX10_bound_5 : decode cX10_bound 5 = .ok (.aload_n 0, 1) := by decide +kernel
theorem dX10_bound_6 : decode cX10_bound 6 = .ok (.invokevirtual 214, 3) := by decide +kernel
theorem dX10_bound_9 : decode cX10_bound 9 = .ok (.astore_n 2, 1) := by decide +kernel
theorem dX10_bound_10 : decode cX10_bound 10 = .ok (.aload_n 2, 1) := by decide +kernel
theorem dX10_bound_11 : decode cX10_bound 11 = .ok (.getfield 218, 3) := by decide +kernel
theorem dX10_bound_14 : decode cX10_bound 14 = .ok (.ifCond .eq 14, 3) := by decide +kernel
theorem dX10_bound_17 : decode cX10_bound 17 = .ok (.aload_n 0, 1) := by decide +kernel
theorem dX10_bound_18 : decode cX10_bound 18 = .ok (.invokevirtual 229, 3) := by decide +kernel
theorem dX10_bound_21 : decode cX10_bound 21 = .ok (.aload_n 2, 1) := by decide +kernel
theorem dX10_bound_22 : decode cX10_bound 22 = .ok (.invokevirtual 279, 3) := by decide +kernel
theorem dX10_bound_25 : decode cX10_bound 25 = .ok (.ifCond .eq 5, 3) := by decide +kernel
theorem dX10_bound_28 : decode cX10_bound 28 = .ok (.iconst 0, 1) := by decide +kernel
theorem dX10_bound_29 : decode cX10_bound 29 = .ok (.ireturn, 1) := by decide +kernel
theorem dX10_bound_30 : decode cX10_bound 30 = .ok (.aload_n 2, 1) := by decide +kernel
theorem dX10_bound_31 : decode cX10_bound 31 = .ok (.getfield 218, 3) := by decide +kernel
theorem dX10_bound_34 : decode cX10_bound 34 = .ok (.aload_n 0, 1) := by decide +kernel
theorem dX10_bound_35 : decode cX10_bound 35 = .ok (.getfield 24, 3) := by decide +kernel
theorem dX10_bound_38 : decode cX10_bound 38 = .ok (.getfield 173, 3) := by decide +kernel
theorem dX10_bound_41 : decode cX10_bound 41 = .ok (.iload_n 1, 1) := by decide +kernel
theorem dX10_bound_42 : decode cX10_bound 42 = .ok (.iaload, 1) := by decide +kernel
theorem dX10_bound_43 : decode cX10_bound 43 = .ok (.invokestatic 337, 3) := by decide +kernel
theorem dX10_bound_46 : decode cX10_bound 46 = .ok (.invokestatic 340, 3) := by decide +kernel
theorem dX10_bound_49 : decode cX10_bound 49 = .ok (.ireturn, 1) := by decide +kernel
def VX10_bound_0 (d : Nat) (Q : Out → MS → Prop) (x0 : Nat) (x1 : Int) (S : MS) : Prop :=
  S.K x0 = 10 ∧ Mw hX10_needScale yX10_needScale d [vA x0, vI x1] S (xV (fun S1 => S1.K x0 = 10 ∧ Mw hX10_rowsLeft yX10_rowsLeft d [vA x0] S1 (oA (fun r2 S2 => S2.K r2 = 5 ∧ (R32 (S2.I r2 0) ∧ (((S2.I r2 0) = 0) → Q (.inl (some (vI 0))) S2) ∧ (¬ ((S2.I r2 0) = 0) → S2.K x0 = 10 ∧ Mw hX10_allRows yX10_allRows d [vA x0] S2 (oA (fun r3 S3 => S3.K r3 = 0 ∧ Mw hX0_areKnown yX0_areKnown d [vA r3, vA r2] S3 (oI (fun r4 S4 => R32 r4 ∧ ((r4 = 0) → S4.K r2 = 5 ∧ (S4.K x0 = 10 ∧ ∃ b5, S4.R x0 2 = some b5 ∧ (S4.K b5 = 7 ∧ ∃ b6, S4.R b5 1 = some b6 ∧ ((S4.K b6 = 13 ∧ 0 ≤ x1 ∧ x1 < S4.N b6) ∧ (Mw hX10_pansOf yX10_pansOf d [vI (S4.I b6 (x1).toNat)] S4 (oI (fun r7 S7 => Mw hX10_leastBound yX10_leastBound d [vI (S4.I r2 0), vI r7] S7 (oI (fun r8 S8 => Q (.inl (some (vI r8))) S8))))))))) ∧ (¬ (r4 = 0) → Q (.inl (some (vI 0))) S4)))))))))) (fun E S9 => Q (.inr E) S9))
theorem JX10_bound_0 {d : Nat} {S0 : MS} {Q : Out → MS → Prop} (x0 : Nat) (x1 : Int) (S : MS) (h : VX10_bound_0 d Q x0 x1 S) : Jw FinM RX10 cX10_bound 3 (some .int) [] yX10_bound (d + 1) S0 S 0 [(0, vA x0), (1, vI x1)] [] Q :=
  j_aload_n 0 dX10_bound_0 rfl (j_iload_n 1 dX10_bound_1 rfl (j_callV (rest := []) 10 [vI x1] k_RX10_166 ⟨w_5_99, p_2_13⟩ ⟨_, _, rfl⟩ (by decide) rfl rfl (Nat.le_of_ble_eq_true rfl) dX10_bound_2 h (kV (fun S1 h => j_aload_n 0 dX10_bound_5 rfl (j_callV (rest := []) 10 [] k_RX10_214 ⟨w_2_57, p_1_0⟩ ⟨_, _, rfl⟩ (by decide) rfl rfl (Nat.le_of_ble_eq_true rfl) dX10_bound_6 h (kA (fun r2 S2 h => j_astore_n (lv2 := [(2, vA r2), (0, vA x0), (1, vI x1)]) dX10_bound_9 (by decide) rfl (j_aload_n 0 dX10_bound_10 rfl (j_getI 5 0 f_RX10_218 dX10_bound_11 h (fun h => j_if_eq (tgt := 28) dX10_bound_14 (by decide) h (fun h => j_iconst dX10_bound_28 (j_iret rfl dX10_bound_29 h)) (fun h => j_aload_n 1 dX10_bound_17 rfl (j_callV (rest := []) 10 [] k_RX10_229 ⟨w_2_61, p_1_1⟩ ⟨_, _, rfl⟩ (by decide) rfl rfl (Nat.le_of_ble_eq_true rfl) dX10_bound_18 h (kA (fun r3 S3 h => j_aload_n 0 dX10_bound_21 rfl (j_callV (rest := []) 0 [vA r2] k_RX10_279 ⟨w_3_63, w_3_64⟩ ⟨_, _, rfl⟩ (by decide) rfl rfl (Nat.le_of_ble_eq_true rfl) dX10_bound_22 h (kI (fun r4 S4 h => j_if_eq (tgt := 30) dX10_bound_25 (by decide) h (fun h => j_aload_n 0 dX10_bound_30 rfl (j_getI 5 0 f_RX10_218 dX10_bound_31 h (fun h => j_aload_n 1 dX10_bound_34 rfl (j_getR 10 2 f_RX10_24 dX10_bound_35 h (fun b5 h => j_getR 7 1 f_RX10_173 dX10_bound_38 h (fun b6 h => j_iload_n 2 dX10_bound_41 rfl (j_iald dX10_bound_42 h (fun h => j_callS (rest := [vI (S4.I r2 0)]) [vI (S4.I b6 (x1).toNat)] k_RX10_337 w_2_83 rfl rfl (Nat.le_of_ble_eq_true rfl) dX10_bound_43 h (kI (fun r7 S7 h => j_callS (rest := []) [vI (S4.I r2 0), vI r7] k_RX10_340 w_6_69 rfl rfl (Nat.le_of_ble_eq_true rfl) dX10_bound_46 h (kI (fun r8 S8 h => j_iret rfl dX10_bound_49 h)) (fun _ _ h => h.elim))) (fun _ _ h => h.elim))))))))) (fun h => j_iconst dX10_bound_28 (j_iret rfl dX10_bound_29 h)))) (fun _ _ h => h.elim)))) (fun _ _ h => h.elim)))))))) (fun _ _ h => h.elim)))) (fun _ _ h => jx_out h)))
theorem MX10_bound {d : Nat} {x0 : Nat} {x1 : Int} {S : MS} {Q : Out → MS → Prop} (h : VX10_bound_0 d Q x0 x1 S) : Mw hX10_bound yX10_bound (d + 1) [vA x0, vI x1] S Q := Mw.ofJ (by decide) (Nat.le_of_ble_eq_true rfl) (JX10_bound_0 _ _ S h)
theorem dX10_byNext_0 : decode cX10_byNext 0 = .ok (.aload_n 0, 1) := by decide +kernel
theorem dX10_byNext_1 : decode cX10_byNext 1 = .ok (.iload_n 1, 1) := by decide +kernel
theorem dX10_byNext_2 : decode cX10_byNext 2 = .ok (.invokevirtual 166, 3) := by decide +kernel
theorem dX10_byNext_5 : decode cX10_byNext 5 = .ok (.aload_n 0, 1) := by decide +kernel
theorem dX10_byNext_6 : decode cX10_byNext 6 = .ok (.iconst 0, 1) := by decide +kernel
theorem dX10_byNext_7 : decode cX10_byNext 7 = .ok (.aload_n 0, 1) := by decide +kernel
theorem dX10_byNext_8 : decode cX10_byNext 8 = .ok (.getfield 24, 3) := by decide +kernel
theorem dX10_byNext_11 : decode cX10_byNext 11 = .ok (.getfield 173, 3) := by decide +kernel
theorem dX10_byNext_14 : decode cX10_byNext 14 = .ok (.iload_n 1, 1) := by decide +kernel
theorem dX10_byNext_15 : decode cX10_byNext 15 = .ok (.iaload, 1) := by decide +kernel
theorem dX10_byNext_16 : decode cX10_byNext 16 = .ok (.invokevirtual 343, 3) := by decide +kernel
theorem dX10_byNext_19 : decode cX10_byNext 19 = .ok (.ireturn, 1) := by decide +kernel
def VX10_byNext_0 (d : Nat) (Q : Out → MS → Prop) (x0 : Nat) (x1 : Int) (S : MS) : Prop :=
  S.K x0 = 10 ∧ Mw hX10_needScale yX10_needScale d [vA x0, vI x1] S (xV (fun S1 => S1.K x0 = 10 ∧ ∃ b2, S1.R x0 2 = some b2 ∧ (S1.K b2 = 7 ∧ ∃ b3, S1.R b2 1 = some b3 ∧ ((S1.K b3 = 13 ∧ 0 ≤ x1 ∧ x1 < S1.N b3) ∧ (S1.K x0 = 10 ∧ Mw hX10_walked yX10_walked d [vA x0, vI 0, vI (S1.I b3 (x1).toNat)] S1 (oI (fun r4 S4 => Q (.inl (some (vI r4))) S4)))))) (fun E S9 => Q (.inr E) S9))
theorem JX10_byNext_0 {d : Nat} {S0 : MS} {Q : Out → MS → Prop} (x0 : Nat) (x1 : Int) (S : MS) (h : VX10_byNext_0 d Q x0 x1 S) : Jw FinM RX10 cX10_byNext 2 (some .int) [] yX10_byNext (d + 1) S0 S 0 [(0, vA x0), (1, vI x1)] [] Q :=
  j_aload_n 0 dX10_byNext_0 rfl (j_iload_n 1 dX10_byNext_1 rfl (j_callV (rest := []) 10 [vI x1] k_RX10_166 ⟨w_5_99, p_2_13⟩ ⟨_, _, rfl⟩ (by decide) rfl rfl (Nat.le_of_ble_eq_true rfl) dX10_byNext_2 h (kV (fun S1 h => j_aload_n 0 dX10_byNext_5 rfl (j_iconst dX10_byNext_6 (j_aload_n 0 dX10_byNext_7 rfl (j_getR 10 2 f_RX10_24 dX10_byNext_8 h (fun b2 h => j_getR 7 1 f_RX10_173 dX10_byNext_11 h (fun b3 h => j_iload_n 1 dX10_byNext_14 rfl (j_iald dX10_byNext_15 h (fun h => j_callV (rest := []) 10 [vI 0, vI (S1.I b3 (x1).toNat)] k_RX10_343 ⟨w_3_157, p_1_12⟩ ⟨_, _, rfl⟩ (by decide) rfl rfl (Nat.le_of_ble_eq_true rfl) dX10_byNext_16 h (kI (fun r4 S4 h => j_iret rfl dX10_byNext_19 h)) (fun _ _ h => h.elim)))))))))) (fun _ _ h => jx_out h)))
theorem MX10_byNext {d : Nat} {x0 : Nat} {x1 : Int} {S : MS} {Q : Out → MS → Prop} (h : VX10_byNext_0 d Q x0 x1 S) : Mw hX10_byNext yX10_byNext (d + 1) [vA x0, vI x1] S Q := Mw.ofJ (by decide) (Nat.le_of_ble_eq_true rfl) (JX10_byNext_0 _ _ S h)
theorem dX10_wants_0 : decode cX10_wants 0 = .ok (.iload_n 1, 1) := by decide +kernel
theorem dX10_wants_1 : decode cX10_wants 1 = .ok (.tableswitch 108 0 3 #[31, 36, 53, 67], 31) := by decide +kernel
theorem dX10_wants_32 : decode cX10_wants 32 = .ok (.aload_n 0, 1) := by decide +kernel
theorem dX10_wants_33 : decode cX10_wants 33 = .ok (.invokevirtual 346, 3) := by decide +kernel
theorem dX10_wants_36 : decode cX10_wants 36 = .ok (.ireturn, 1) := by decide +kernel
theorem dX10_wants_37 : decode cX10_wants 37 = .ok (.aload_n 0, 1) := by decide +kernel
theorem dX10_wants_38 : decode cX10_wants 38 = .ok (.invokevirtual 350, 3) := by decide +kernel
theorem dX10_wants_41 : decode cX10_wants 41 = .ok (.invokestatic 353, 3) := by decide +kernel
theorem dX10_wants_44 : decode cX10_wants 44 = .ok (.iconst 1, 1) := by decide +kernel
theorem dX10_wants_45 : decode cX10_wants 45 = .ok (.if_icmp .ne 7, 3) := by decide +kernel
theorem dX10_wants_48 : decode cX10_wants 48 = .ok (.iconst 1, 1) := by decide +kernel
theorem dX10_wants_49 : decode cX10_wants 49 = .ok (.goto 4, 3) := by decide +kernel
theorem dX10_wants_52 : decode cX10_wants 52 = .ok (.iconst 0, 1) := by decide +kernel
theorem dX10_wants_53 : decode cX10_wants 53 = .ok (.ireturn, 1) := by decide +kernel
theorem dX10_wants_54 : decode cX10_wants 54 = .ok (.aload_n 0, 1) := by decide +kernel
theorem dX10_wants_55 : decode cX10_wants 55 = .ok (.invokevirtual 358, 3) := by decide +kernel
theorem dX10_wants_58 : decode cX10_wants 58 = .ok (.iconst 1, 1) := by decide +kernel
theorem dX10_wants_59 : decode cX10_wants 59 = .ok (.if_icmp .ne 7, 3) := by decide +kernel
theorem dX10_wants_62 : decode cX10_wants 62 = .ok (.iconst 1, 1) := by decide +kernel
theorem dX10_wants_63 : decode cX10_wants 63 = .ok (.goto 4, 3) := by decide +kernel
theorem dX10_wants_66 : decode cX10_wants 66 = .ok (.iconst 0, 1) := by decide +kernel
theorem dX10_wants_67 : decode cX10_wants 67 = .ok (.ireturn, 1) := by decide +kernel
theorem dX10_wants_68 : decode cX10_wants 68 = .ok (.aload_n 0, 1) := by decide +kernel
theorem dX10_wants_69 : decode cX10_wants 69 = .ok (.iload_n 2, 1) := by decide +kernel
theorem dX10_wants_70 : decode cX10_wants 70 = .ok (.invokevirtual 158, 3) := by decide +kernel
theorem dX10_wants_73 : decode cX10_wants 73 = .ok (.aload_n 0, 1) := by decide +kernel
theorem dX10_wants_74 : decode cX10_wants 74 = .ok (.invokevirtual 214, 3) := by decide +kernel
theorem dX10_wants_77 : decode cX10_wants 77 = .ok (.getfield 218, 3) := by decide +kernel
theorem dX10_wants_80 : decode cX10_wants 80 = .ok (.istore_n 3, 1) := by decide +kernel
theorem dX10_wants_81 : decode cX10_wants 81 = .ok (.aload_n 0, 1) := by decide +kernel
theorem dX10_wants_82 : decode cX10_wants 82 = .ok (.iload_n 2, 1) := by decide +kernel
theorem dX10_wants_83 : decode cX10_wants 83 = .ok (.invokevirtual 268, 3) := by decide +kernel
theorem dX10_wants_86 : decode cX10_wants 86 = .ok (.istore 4, 2) := by decide +kernel
theorem dX10_wants_88 : decode cX10_wants 88 = .ok (.iload_n 3, 1) := by decide +kernel
theorem dX10_wants_89 : decode cX10_wants 89 = .ok (.ifCond .le 18, 3) := by decide +kernel
theorem dX10_wants_92 : decode cX10_wants 92 = .ok (.iload 4, 2) := by decide +kernel
theorem dX10_wants_94 : decode cX10_wants 94 = .ok (.ifCond .eq 9, 3) := by decide +kernel
theorem dX10_wants_97 : decode cX10_wants 97 = .ok (.iload 4, 2) := by decide +kernel
theorem dX10_wants_99 : decode cX10_wants 99 = .ok (.iload_n 3, 1) := by decide +kernel
theorem dX10_wants_100 : decode cX10_wants 100 = .ok (.if_icmp .ne 7, 3) := by decide +kernel
theorem dX10_wants_103 : decode cX10_wants 103 = .ok (.iconst 1, 1) := by decide +kernel
theorem dX10_wants_104 : decode cX10_wants 104 = .ok (.goto 4, 3) := by decide +kernel
theorem dX10_wants_107 : decode cX10_wants 107 = .ok (.iconst 0, 1) := by decide +kernel
theorem dX10_wants_108 : decode cX10_wants 108 = .ok (.ireturn, 1) := by decide +kernel
theorem dX10_wants_109 : decode cX10_wants 109 = .ok (.new 206, 3) := by decide +kernel
theorem dX10_wants_112 : decode cX10_wants 112 = .ok (.dup, 1) := by decide +kernel
theorem dX10_wants_113 : decode cX10_wants 113 = .ok (.ldc_w 361, 3) := by decide +kernel
theorem dX10_wants_116 : decode cX10_wants 116 = .ok (.invokespecial 210, 3) := by decide +kernel
theorem dX10_wants_119 : decode cX10_wants 119 = .ok (.athrow, 1) := by decide +kernel
def VX10_wants_103 (d : Nat) (Q : Out → MS → Prop) (S : MS) : Prop :=
  B01 1 ∧ Q (.inl (some (vI 1))) S
theorem JX10_wants_103 {d : Nat} {S0 : MS} {Q : Out → MS → Prop} (S : MS) (h : VX10_wants_103 d Q S) : Jw FinM RX10 cX10_wants 5 (some .boolean) [] yX10_wants (d + 1) S0 S 103 [] [] Q :=
  j_iconst dX10_wants_103 (j_goto (tgt := 108) dX10_wants_104 (by decide) (j_zret rfl dX10_wants_108 h))
def VX10_wants_0 (d : Nat) (Q : Out → MS → Prop) (x0 : Nat) (x1 : Int) (x2 : Int) (S : MS) : Prop :=
  R32 x1 ∧ ((x1 = 0 → S.K x0 = 10 ∧ Mw hX10_known yX10_known d [vA x0] S (oI (fun r1 S1 => B01 r1 ∧ Q (.inl (some (vI r1))) S1))) ∧ ((x1 = 1 → S.K x0 = 10 ∧ Mw hX10_centre yX10_centre d [vA x0] S (oI (fun r2 S2 => Mw hJ6_bitCount_0f7a4 yJ6_bitCount_0f7a4 d [vI r2] S2 (oI (fun r3 S3 => (R32 r3 ∧ R32 (1 : Int)) ∧ (¬ (r3 = (1 : Int)) → B01 0 ∧ Q (.inl (some (vI 0))) S3) ∧ ((r3 = (1 : Int)) → B01 1 ∧ Q (.inl (some (vI 1))) S3)))))) ∧ ((x1 = 2 → S.K x0 = 10 ∧ Mw hX10_ends yX10_ends d [vA x0] S (oI (fun r4 S4 => (R32 r4 ∧ R32 (1 : Int)) ∧ (¬ (r4 = (1 : Int)) → B01 0 ∧ Q (.inl (some (vI 0))) S4) ∧ ((r4 = (1 : Int)) → B01 1 ∧ Q (.inl (some (vI 1))) S4)))) ∧ ((x1 = 3 → S.K x0 = 10 ∧ Mw hX10_needThing yX10_needThing d [vA x0, vI x2] S (xV (fun S5 => S5.K x0 = 10 ∧ Mw hX10_rowsLeft yX10_rowsLeft d [vA x0] S5 (oA (fun r6 S6 => S6.K r6 = 5 ∧ (S6.K x0 = 10 ∧ Mw hX10_rowsAtEnd yX10_rowsAtEnd d [vA x0, vI x2] S6 (oI (fun r7 S7 => R32 (S6.I r6 0) ∧ (((S6.I r6 0) ≤ 0) → B01 0 ∧ Q (.inl (some (vI 0))) S7) ∧ (¬ ((S6.I r6 0) ≤ 0) → R32 r7 ∧ ((r7 = 0) → VX10_wants_103 d Q S7) ∧ (¬ (r7 = 0) → (R32 r7 ∧ R32 (S6.I r6 0)) ∧ (¬ (r7 = (S6.I r6 0)) → B01 0 ∧ Q (.inl (some (vI 0))) S7) ∧ ((r7 = (S6.I r6 0)) → VX10_wants_103 d Q S7))))))))) (fun E S9 => Q (.inr E) S9))) ∧ ((x1 < 0 ∨ 3 < x1) → 5 ≤ d ∧ Q (.inr "java/util/NoSuchElementException") (S.junk 6))))))
theorem JX10_wants_0 {d : Nat} {S0 : MS} {Q : Out → MS → Prop} (x0 : Nat) (x1 : Int) (x2 : Int) (S : MS) (h : VX10_wants_0 d Q x0 x1 x2 S) : Jw FinM RX10 cX10_wants 5 (some .boolean) [] yX10_wants (d + 1) S0 S 0 [(0, vA x0), (1, vI x1), (2, vI x2)] [] Q :=
  j_iload_n 1 dX10_wants_0 rfl ((have hr := h.1; have h := h.2; j_tswC (cv := 0) (tgt := 32) dX10_wants_1 hr (by decide) (by decide) rfl (by decide) h (fun h => j_aload_n 0 dX10_wants_32 rfl (j_callV (rest := []) 10 [] k_RX10_346 ⟨w_3_59, w_3_60⟩ ⟨_, _, rfl⟩ (by decide) rfl rfl (Nat.le_of_ble_eq_true rfl) dX10_wants_33 h (kI (fun r1 S1 h => j_zret rfl dX10_wants_36 h)) (fun _ _ h => h.elim))) (fun hne0 h => j_tswC (cv := 1) (tgt := 37) dX10_wants_1 hr (by decide) (by decide) rfl (by decide) h (fun h => j_aload_n 0 dX10_wants_37 rfl (j_callV (rest := []) 10 [] k_RX10_350 ⟨w_3_50, w_3_51⟩ ⟨_, _, rfl⟩ (by decide) rfl rfl (Nat.le_of_ble_eq_true rfl) dX10_wants_38 h (kI (fun r2 S2 h => j_callS (rest := []) [vI r2] k_RX10_353 w_2_86 rfl rfl (Nat.le_of_ble_eq_true rfl) dX10_wants_41 h (kI (fun r3 S3 h => j_iconst dX10_wants_44 (j_icmp_ne (tgt := 52) dX10_wants_45 (by decide) h (fun h => j_iconst dX10_wants_52 (j_zret rfl dX10_wants_53 h)) (fun h => j_iconst dX10_wants_48 (j_goto (tgt := 53) dX10_wants_49 (by decide) (j_zret rfl dX10_wants_53 h)))))) (fun _ _ h => h.elim))) (fun _ _ h => h.elim))) (fun hne1 h => j_tswC (cv := 2) (tgt := 54) dX10_wants_1 hr (by decide) (by decide) rfl (by decide) h (fun h => j_aload_n 0 dX10_wants_54 rfl (j_callV (rest := []) 10 [] k_RX10_358 ⟨w_3_21, w_3_22⟩ ⟨_, _, rfl⟩ (by decide) rfl rfl (Nat.le_of_ble_eq_true rfl) dX10_wants_55 h (kI (fun r4 S4 h => j_iconst dX10_wants_58 (j_icmp_ne (tgt := 66) dX10_wants_59 (by decide) h (fun h => j_iconst dX10_wants_66 (j_zret rfl dX10_wants_67 h)) (fun h => j_iconst dX10_wants_62 (j_goto (tgt := 67) dX10_wants_63 (by decide) (j_zret rfl dX10_wants_67 h)))))) (fun _ _ h => h.elim))) (fun hne2 h => j_tswC (cv := 3) (tgt := 68) dX10_wants_1 hr (by decide) (by decide) rfl (by decide) h (fun h => j_aload_n 0 dX10_wants_68 rfl (j_iload_n 2 dX10_wants_69 rfl (j_callV (rest := []) 10 [vI x2] k_RX10_158 ⟨w_5_67, p_2_12⟩ ⟨_, _, rfl⟩ (by decide) rfl rfl (Nat.le_of_ble_eq_true rfl) dX10_wants_70 h (kV (fun S5 h => j_aload_n 0 dX10_wants_73 rfl (j_callV (rest := []) 10 [] k_RX10_214 ⟨w_2_57, p_1_0⟩ ⟨_, _, rfl⟩ (by decide) rfl rfl (Nat.le_of_ble_eq_true rfl) dX10_wants_74 h (kA (fun r6 S6 h => j_getI 5 0 f_RX10_218 dX10_wants_77 h (fun h => j_istore_n (lv2 := [(3, vI (S6.I r6 0)), (0, vA x0), (1, vI x1), (2, vI x2)]) dX10_wants_80 (by decide) rfl (j_aload_n 1 dX10_wants_81 rfl (j_iload_n 3 dX10_wants_82 rfl (j_callV (rest := []) 10 [vI x2] k_RX10_268 ⟨w_3_42, p_1_8⟩ ⟨_, _, rfl⟩ (by decide) rfl rfl (Nat.le_of_ble_eq_true rfl) dX10_wants_83 h (kI (fun r7 S7 h => j_istore (lv2 := [(4, vI r7), (3, vI (S6.I r6 0)), (0, vA x0), (1, vI x1), (2, vI x2)]) dX10_wants_86 (by decide) rfl (j_iload_n 1 dX10_wants_88 rfl (j_if_le (tgt := 107) dX10_wants_89 (by decide) h (fun h => j_iconst dX10_wants_107 (j_zret rfl dX10_wants_108 h)) (fun h => j_iload 0 dX10_wants_92 rfl (j_if_eq (tgt := 103) dX10_wants_94 (by decide) h (fun h => j_sub [] rfl (JX10_wants_103 _ h)) (fun h => j_iload 0 dX10_wants_97 rfl (j_iload_n 1 dX10_wants_99 rfl (j_icmp_ne (tgt := 107) dX10_wants_100 (by decide) h (fun h => j_iconst dX10_wants_107 (j_zret rfl dX10_wants_108 h)) (fun h => j_sub [] rfl (JX10_wants_103 _ h))))))))))) (fun _ _ h => h.elim))))))) (fun _ _ h => h.elim)))) (fun _ _ h => jx_out h)))) (fun hne3 h => j_tswD (tgt := 109) dX10_wants_1 hr (tsw_3 hne0 hne1 hne2 hne3) (by decide) h (fun h => j_throwW t_RX10_206_210 (List.mem_of_getElem? (i := 11) rfl) dX10_wants_109 dX10_wants_112 dX10_wants_113 dX10_wants_116 dX10_wants_119 (Nat.le_of_ble_eq_true rfl) rfl h)))))))
theorem MX10_wants {d : Nat} {x0 : Nat} {x1 : Int} {x2 : Int} {S : MS} {Q : Out → MS → Prop} (h : VX10_wants_0 d Q x0 x1 x2 S) : Mw hX10_wants yX10_wants (d + 1) [vA x0, vI x1, vI x2] S Q := Mw.ofJ (by decide) (Nat.le_of_ble_eq_true rfl) (JX10_wants_0 _ _ _ S h)
theorem dX10_plain_0 : decode cX10_plain 0 = .ok (.aload_n 0, 1) := by decide +kernel
theorem dX10_plain_1 : decode cX10_plain 1 = .ok (.iload_n 1, 1) := by decide +kernel
theorem dX10_plain_2 : decode cX10_plain 2 = .ok (.iload_n 2, 1) := by decide +kernel
theorem dX10_plain_3 : decode cX10_plain 3 = .ok (.invokevirtual 254, 3) := by decide +kernel
theorem dX10_plain_6 : decode cX10_plain 6 = .ok (.istore_n 3, 1) := by decide +kernel
theorem dX10_plain_7 : decode cX10_plain 7 = .ok (.iload_n 3, 1) := by decide +kernel
theorem dX10_plain_8 : decode cX10_plain 8 = .ok (.aload_n 0, 1) := by decide +kernel
theorem dX10_plain_9 : decode cX10_plain 9 = .ok (.invokevirtual 214, 3) := by decide +kernel
theorem dX10_plain_12 : decode cX10_plain 12 = .ok (.getfield 218, 3) := by decide +kernel
theorem dX10_plain_15 : decode cX10_plain 15 = .ok (.iload_n 3, 1) := by decide +kernel
theorem dX10_plain_16 : decode cX10_plain 16 = .ok (.isub, 1) := by decide +kernel
theorem dX10_plain_17 : decode cX10_plain 17 = .ok (.invokestatic 363, 3) := by decide +kernel
theorem dX10_plain_20 : decode cX10_plain 20 = .ok (.ireturn, 1) := by decide +kernel
def VX10_plain_0 (d : Nat) (Q : Out → MS → Prop) (x0 : Nat) (x1 : Int) (x2 : Int) (S : MS) : Prop :=
  S.K x0 = 10 ∧ Mw hX10_rowsHeavier yX10_rowsHeavier d [vA x0, vI x1, vI x2] S (xI (fun r1 S1 => S1.K x0 = 10 ∧ Mw hX10_rowsLeft yX10_rowsLeft d [vA x0] S1 (oA (fun r2 S2 => S2.K r2 = 5 ∧ ((R32 r1 ∧ R32 ((S2.I r2 0) - r1)) ∧ (Q (.inl (some (vI (min r1 ((S2.I r2 0) - r1))))) S2))))) (fun E S9 => Q (.inr E) S9))
theorem JX10_plain_0 {d : Nat} {S0 : MS} {Q : Out → MS → Prop} (x0 : Nat) (x1 : Int) (x2 : Int) (S : MS) (h : VX10_plain_0 d Q x0 x1 x2 S) : Jw FinM RX10 cX10_plain 4 (some .int) [] yX10_plain (d + 1) S0 S 0 [(0, vA x0), (1, vI x1), (2, vI x2)] [] Q :=
  j_aload_n 0 dX10_plain_0 rfl (j_iload_n 1 dX10_plain_1 rfl (j_iload_n 2 dX10_plain_2 rfl (j_callV (rest := []) 10 [vI x1, vI x2] k_RX10_254 ⟨w_5_216, p_3_2⟩ ⟨_, _, rfl⟩ (by decide) rfl rfl (Nat.le_of_ble_eq_true rfl) dX10_plain_3 h (kI (fun r1 S1 h => j_istore_n (lv2 := [(3, vI r1), (0, vA x0), (1, vI x1), (2, vI x2)]) dX10_plain_6 (by decide) rfl (j_iload_n 0 dX10_plain_7 rfl (j_aload_n 1 dX10_plain_8 rfl (j_callV (rest := [vI r1]) 10 [] k_RX10_214 ⟨w_2_57, p_1_0⟩ ⟨_, _, rfl⟩ (by decide) rfl rfl (Nat.le_of_ble_eq_true rfl) dX10_plain_9 h (kA (fun r2 S2 h => j_getI 5 0 f_RX10_218 dX10_plain_12 h (fun h => j_iload_n 0 dX10_plain_15 rfl (j_isub dX10_plain_16 (j_mmin w_2_63 w_2_64 w_1_16 w_mmin (Nat.le_of_ble_eq_true rfl) dX10_plain_17 h (fun h => j_iret rfl dX10_plain_20 h)))))) (fun _ _ h => h.elim)))))) (fun _ _ h => jx_out h))))
theorem MX10_plain {d : Nat} {x0 : Nat} {x1 : Int} {x2 : Int} {S : MS} {Q : Out → MS → Prop} (h : VX10_plain_0 d Q x0 x1 x2 S) : Mw hX10_plain yX10_plain (d + 1) [vA x0, vI x1, vI x2] S Q := Mw.ofJ (by decide) (Nat.le_of_ble_eq_true rfl) (JX10_plain_0 _ _ _ S h)
theorem dX10_sorted_0 : decode cX10_sorted 0 = .ok (.iload_n 1, 1) := by decide +kernel
theorem dX10_sorted_1 : decode cX10_sorted 1 = .ok (.iconst (-1), 1) := by decide +kernel
theorem dX10_sorted_2 : decode cX10_sorted 2 = .ok (.if_icmp .eq 24, 3) := by decide +kernel
theorem dX10_sorted_5 : decode cX10_sorted 5 = .ok (.aload_n 0, 1) := by decide +kernel
theorem dX10_sorted_6 : decode cX10_sorted 6 = .ok (.getfield 24, 3) := by decide +kernel
theorem dX10_sorted_9 : decode cX10_sorted 9 = .ok (.iload_n 1, 1) := by decide +kernel
theorem dX10_sorted_10 : decode cX10_sorted 10 = .ok (.invokevirtual 180, 3) := by decide +kernel
theorem dX10_sorted_13 : decode cX10_sorted 13 = .ok (.ifCond .ne 13, 3) := by decide +kernel
theorem dX10_sorted_16 : decode cX10_sorted 16 = .ok (.new 221, 3) := by decide +kernel
theorem dX10_sorted_19 : decode cX10_sorted 19 = .ok (.dup, 1) := by decide +kernel
theorem dX10_sorted_20 : decode cX10_sorted 20 = .ok (.ldc 223, 2) := by decide +kernel
theorem dX10_sorted_22 : decode cX10_sorted 22 = .ok (.invokespecial 225, 3) := by decide +kernel
theorem dX10_sorted_25 : decode cX10_sorted 25 = .ok (.athrow, 1) := by decide +kernel
theorem dX10_sorted_26 : decode cX10_sorted 26 = .ok (.aload_n 0, 1) := by decide +kernel
theorem dX10_sorted_27 : decode cX10_sorted 27 = .ok (.getfield 72, 3) := by decide +kernel
theorem dX10_sorted_30 : decode cX10_sorted 30 = .ok (.aload_n 0, 1) := by decide +kernel
theorem dX10_sorted_31 : decode cX10_sorted 31 = .ok (.getfield 24, 3) := by decide +kernel
theorem dX10_sorted_34 : decode cX10_sorted 34 = .ok (.invokevirtual 368, 3) := by decide +kernel
theorem dX10_sorted_37 : decode cX10_sorted 37 = .ok (.iload_n 1, 1) := by decide +kernel
theorem dX10_sorted_38 : decode cX10_sorted 38 = .ok (.iconst (-1), 1) := by decide +kernel
theorem dX10_sorted_39 : decode cX10_sorted 39 = .ok (.if_icmp .ne 13, 3) := by decide +kernel
theorem dX10_sorted_42 : decode cX10_sorted 42 = .ok (.aload_n 0, 1) := by decide +kernel
theorem dX10_sorted_43 : decode cX10_sorted 43 = .ok (.getfield 72, 3) := by decide +kernel
theorem dX10_sorted_46 : decode cX10_sorted 46 = .ok (.getfield 371, 3) := by decide +kernel
theorem dX10_sorted_49 : decode cX10_sorted 49 = .ok (.goto 12, 3) := by decide +kernel
theorem dX10_sorted_52 : decode cX10_sorted 52 = .ok (.aload_n 0, 1) := by decide +kernel
theorem dX10_sorted_53 : decode cX10_sorted 53 = .ok (.getfield 72, 3) := by decide +kernel
theorem dX10_sorted_56 : decode cX10_sorted 56 = .ok (.getfield 374, 3) := by decide +kernel
theorem dX10_sorted_59 : decode cX10_sorted 59 = .ok (.iload_n 1, 1) := by decide +kernel
theorem dX10_sorted_60 : decode cX10_sorted 60 = .ok (.iaload, 1) := by decide +kernel
theorem dX10_sorted_61 : decode cX10_sorted 61 = .ok (.ireturn, 1) := by decide +kernel
def VX10_sorted_26 (d : Nat) (Q : Out → MS → Prop) (x0 : Nat) (x1 : Int) (S : MS) : Prop :=
  S.K x0 = 10 ∧ ∃ b1, S.R x0 10 = some b1 ∧ (S.K x0 = 10 ∧ ∃ b2, S.R x0 2 = some b2 ∧ (S.K b1 = 6 ∧ Mw hX6_sort yX6_sort d [vA b1, vA b2] S (oV (fun S3 => (R32 x1 ∧ R32 ((-1) : Int)) ∧ (¬ (x1 = ((-1) : Int)) → S3.K x0 = 10 ∧ ∃ b4, S3.R x0 10 = some b4 ∧ (S3.K b4 = 6 ∧ ∃ b5, S3.R b4 0 = some b5 ∧ ((S3.K b5 = 13 ∧ 0 ≤ x1 ∧ x1 < S3.N b5) ∧ (Q (.inl (some (vI (S3.I b5 (x1).toNat)))) S3)))) ∧ ((x1 = ((-1) : Int)) → S3.K x0 = 10 ∧ ∃ b6, S3.R x0 10 = some b6 ∧ (S3.K b6 = 6 ∧ (Q (.inl (some (vI (S3.I b6 1)))) S3)))))))
theorem JX10_sorted_26 {d : Nat} {S0 : MS} {Q : Out → MS → Prop} (x0 : Nat) (x1 : Int) (S : MS) (h : VX10_sorted_26 d Q x0 x1 S) : Jw FinM RX10 cX10_sorted 2 (some .int) [] yX10_sorted (d + 1) S0 S 26 [(0, vA x0), (1, vI x1)] [] Q :=
  j_aload_n 0 dX10_sorted_26 rfl (j_getR 10 10 f_RX10_72 dX10_sorted_27 h (fun b1 h => j_aload_n 0 dX10_sorted_30 rfl (j_getR 10 2 f_RX10_24 dX10_sorted_31 h (fun b2 h => j_callV (rest := []) 6 [vA b2] k_RX10_368 ⟨w_6_127, w_6_128⟩ ⟨_, _, rfl⟩ (by decide) rfl rfl (Nat.le_of_ble_eq_true rfl) dX10_sorted_34 h (kV (fun S3 h => j_iload_n 1 dX10_sorted_37 rfl (j_iconst dX10_sorted_38 (j_icmp_ne (tgt := 52) dX10_sorted_39 (by decide) h (fun h => j_aload_n 0 dX10_sorted_52 rfl (j_getR 10 10 f_RX10_72 dX10_sorted_53 h (fun b4 h => j_getR 6 0 f_RX10_374 dX10_sorted_56 h (fun b5 h => j_iload_n 1 dX10_sorted_59 rfl (j_iald dX10_sorted_60 h (fun h => j_iret rfl dX10_sorted_61 h)))))) (fun h => j_aload_n 0 dX10_sorted_42 rfl (j_getR 10 10 f_RX10_72 dX10_sorted_43 h (fun b6 h => j_getI 6 1 f_RX10_371 dX10_sorted_46 h (fun h => j_goto (tgt := 61) dX10_sorted_49 (by decide) (j_iret rfl dX10_sorted_61 h))))))))) (fun _ _ h => h.elim)))))
def VX10_sorted_0 (d : Nat) (Q : Out → MS → Prop) (x0 : Nat) (x1 : Int) (S : MS) : Prop :=
  (R32 x1 ∧ R32 ((-1) : Int)) ∧ ((x1 = ((-1) : Int)) → VX10_sorted_26 d Q x0 x1 S) ∧ (¬ (x1 = ((-1) : Int)) → S.K x0 = 10 ∧ ∃ b1, S.R x0 2 = some b1 ∧ (S.K b1 = 7 ∧ Mw hX7_isThing yX7_isThing d [vA b1, vI x1] S (oI (fun r2 S2 => R32 r2 ∧ (¬ (r2 = 0) → VX10_sorted_26 d Q x0 x1 S2) ∧ ((r2 = 0) → 5 ≤ d ∧ Q (.inr "java/lang/IndexOutOfBoundsException") (S2.junk 6))))))
theorem JX10_sorted_0 {d : Nat} {S0 : MS} {Q : Out → MS → Prop} (x0 : Nat) (x1 : Int) (S : MS) (h : VX10_sorted_0 d Q x0 x1 S) : Jw FinM RX10 cX10_sorted 2 (some .int) [] yX10_sorted (d + 1) S0 S 0 [(0, vA x0), (1, vI x1)] [] Q :=
  j_iload_n 1 dX10_sorted_0 rfl (j_iconst dX10_sorted_1 (j_icmp_eq (tgt := 26) dX10_sorted_2 (by decide) h (fun h => JX10_sorted_26 _ _ _ h) (fun h => j_aload_n 0 dX10_sorted_5 rfl (j_getR 10 2 f_RX10_24 dX10_sorted_6 h (fun b1 h => j_iload_n 1 dX10_sorted_9 rfl (j_callV (rest := []) 7 [vI x1] k_RX10_180 ⟨w_5_70, w_5_71⟩ ⟨_, _, rfl⟩ (by decide) rfl rfl (Nat.le_of_ble_eq_true rfl) dX10_sorted_10 h (kI (fun r2 S2 h => j_if_ne (tgt := 26) dX10_sorted_13 (by decide) h (fun h => JX10_sorted_26 _ _ _ h) (fun h => j_throw t_RX10_221_225 (List.mem_of_getElem? (i := 10) rfl) dX10_sorted_16 dX10_sorted_19 dX10_sorted_20 dX10_sorted_22 dX10_sorted_25 (Nat.le_of_ble_eq_true rfl) rfl h))) (fun _ _ h => h.elim)))))))
theorem MX10_sorted {d : Nat} {x0 : Nat} {x1 : Int} {S : MS} {Q : Out → MS → Prop} (h : VX10_sorted_0 d Q x0 x1 S) : Mw hX10_sorted yX10_sorted (d + 1) [vA x0, vI x1] S Q := Mw.ofJ (by decide) (Nat.le_of_ble_eq_true rfl) (JX10_sorted_0 _ _ S h)
theorem dX10_grown_0 : decode cX10_grown 0 = .ok (.aload_n 0, 1) := by decide +kernel
theorem dX10_grown_1 : decode cX10_grown 1 = .ok (.iload_n 1, 1) := by decide +kernel
theorem dX10_grown_2 : decode cX10_grown 2 = .ok (.invokevirtual 158, 3) := by decide +kernel
theorem dX10_grown_5 : decode cX10_grown 5 = .ok (.aload_n 0, 1) := by decide +kernel
theorem dX10_grown_6 : decode cX10_grown 6 = .ok (.getfield 24, 3) := by decide +kernel
theorem dX10_grown_9 : decode cX10_grown 9 = .ok (.getfield 132, 3) := by decide +kernel
theorem dX10_grown_12 : decode cX10_grown 12 = .ok (.istore_n 2, 1) := by decide +kernel
theorem dX10_grown_13 : decode cX10_grown 13 = .ok (.iload_n 2, 1) := by decide +kernel
theorem dX10_grown_14 : decode cX10_grown 14 = .ok (.iconst 1, 1) := by decide +kernel
theorem dX10_grown_15 : decode cX10_grown 15 = .ok (.isub, 1) := by decide +kernel
theorem dX10_grown_16 : decode cX10_grown 16 = .ok (.istore_n 3, 1) := by decide +kernel
theorem dX10_grown_17 : decode cX10_grown 17 = .ok (.iload_n 3, 1) := by decide +kernel
theorem dX10_grown_18 : decode cX10_grown 18 = .ok (.ifCond .lt 33, 3) := by decide +kernel
theorem dX10_grown_21 : decode cX10_grown 21 = .ok (.aload_n 0, 1) := by decide +kernel
theorem dX10_grown_22 : decode cX10_grown 22 = .ok (.getfield 24, 3) := by decide +kernel
theorem dX10_grown_25 : decode cX10_grown 25 = .ok (.getfield 200, 3) := by decide +kernel
theorem dX10_grown_28 : decode cX10_grown 28 = .ok (.iload_n 3, 1) := by decide +kernel
theorem dX10_grown_29 : decode cX10_grown 29 = .ok (.iaload, 1) := by decide +kernel
theorem dX10_grown_30 : decode cX10_grown 30 = .ok (.iload_n 1, 1) := by decide +kernel
theorem dX10_grown_31 : decode cX10_grown 31 = .ok (.invokestatic 184, 3) := by decide +kernel
theorem dX10_grown_34 : decode cX10_grown 34 = .ok (.ifCond .eq 11, 3) := by decide +kernel
theorem dX10_grown_37 : decode cX10_grown 37 = .ok (.aload_n 0, 1) := by decide +kernel
theorem dX10_grown_38 : decode cX10_grown 38 = .ok (.getfield 24, 3) := by decide +kernel
theorem dX10_grown_41 : decode cX10_grown 41 = .ok (.iload_n 3, 1) := by decide +kernel
theorem dX10_grown_42 : decode cX10_grown 42 = .ok (.invokevirtual 211, 3) := by decide +kernel
theorem dX10_grown_45 : decode cX10_grown 45 = .ok (.iinc 3 (-1), 3) := by decide +kernel
theorem dX10_grown_48 : decode cX10_grown 48 = .ok (.goto (-31), 3) := by decide +kernel
theorem dX10_grown_51 : decode cX10_grown 51 = .ok (.aload_n 0, 1) := by decide +kernel
theorem dX10_grown_52 : decode cX10_grown 52 = .ok (.iconst 0, 1) := by decide +kernel
theorem dX10_grown_53 : decode cX10_grown 53 = .ok (.putfield 80, 3) := by decide +kernel
theorem dX10_grown_56 : decode cX10_grown 56 = .ok (.iload_n 2, 1) := by decide +kernel
theorem dX10_grown_57 : decode cX10_grown 57 = .ok (.aload_n 0, 1) := by decide +kernel
theorem dX10_grown_58 : decode cX10_grown 58 = .ok (.getfield 24, 3) := by decide +kernel
theorem dX10_grown_61 : decode cX10_grown 61 = .ok (.getfield 132, 3) := by decide +kernel
theorem dX10_grown_64 : decode cX10_grown 64 = .ok (.isub, 1) := by decide +kernel
theorem dX10_grown_65 : decode cX10_grown 65 = .ok (.ireturn, 1) := by decide +kernel
def VX10_grown_45 (d : Nat) (c17 : Nat → Int → Int → Int → MS → Prop) (Q : Out → MS → Prop) (x0 : Nat) (x1 : Int) (x2 : Int) (x3 : Int) (S : MS) : Prop :=
  c17 x0 x1 x2 (x3 + (-1)) S
theorem JX10_grown_45 {d : Nat} {c17 : Nat → Int → Int → Int → MS → Prop} {S0 : MS} {Q : Out → MS → Prop} (hc17 : ∀ (x0 : Nat) (x1 : Int) (x2 : Int) (x3 : Int) (S : MS), c17 x0 x1 x2 x3 S → Jw FinM RX10 cX10_grown 4 (some .int) [] yX10_grown (d + 1) S0 S 17 [(0, vA x0), (1, vI x1), (2, vI x2), (3, vI x3)] [] Q) (x0 : Nat) (x1 : Int) (x2 : Int) (x3 : Int) (S : MS) (h : VX10_grown_45 d c17 Q x0 x1 x2 x3 S) : Jw FinM RX10 cX10_grown 4 (some .int) [] yX10_grown (d + 1) S0 S 45 [(0, vA x0), (1, vI x1), (2, vI x2), (3, vI x3)] [] Q :=
  j_iinc 3 (lv2 := [(3, vI (x3 + (-1))), (0, vA x0), (1, vI x1), (2, vI x2)]) dX10_grown_45 rfl (by decide) rfl (j_goto (tgt := 17) dX10_grown_48 (by decide) (j_sub [1, 2, 3, 0] rfl (hc17 _ _ _ _ _ h)))
def VX10_grown_17 (d : Nat) (Q : Out → MS → Prop) : Nat → Nat → Int → Int → Int → MS → Prop
  | 0, _, _, _, _, _ => False
  | n + 1, x0, x1, x2, x3, S => R32 x3 ∧ ((x3 < 0) → (S.K x0 = 10 ∧ B01 0) ∧ ((S.setI x0 12 0).K x0 = 10 ∧ ∃ b1, (S.setI x0 12 0).R x0 2 = some b1 ∧ ((S.setI x0 12 0).K b1 = 7 ∧ (Q (.inl (some (vI (x2 - ((S.setI x0 12 0).I b1 9))))) (S.setI x0 12 0))))) ∧ (¬ (x3 < 0) → S.K x0 = 10 ∧ ∃ b2, S.R x0 2 = some b2 ∧ (S.K b2 = 7 ∧ ∃ b3, S.R b2 5 = some b3 ∧ ((S.K b3 = 13 ∧ 0 ≤ x3 ∧ x3 < S.N b3) ∧ (Mw hX10_holds yX10_holds d [vI (S.I b3 (x3).toNat), vI x1] S (oI (fun r4 S4 => R32 r4 ∧ ((r4 = 0) → VX10_grown_45 d (VX10_grown_17 d Q n) Q x0 x1 x2 x3 S4) ∧ (¬ (r4 = 0) → S4.K x0 = 10 ∧ ∃ b5, S4.R x0 2 = some b5 ∧ (S4.K b5 = 7 ∧ Mw hX7_putAway yX7_putAway d [vA b5, vI x3] S4 (oV (fun S6 => VX10_grown_45 d (VX10_grown_17 d Q n) Q x0 x1 x2 x3 S6))))))))))
theorem JX10_grown_17 {d : Nat} {S0 : MS} {Q : Out → MS → Prop} : ∀ (n : Nat) (x0 : Nat) (x1 : Int) (x2 : Int) (x3 : Int) (S : MS), VX10_grown_17 d Q n x0 x1 x2 x3 S → Jw FinM RX10 cX10_grown 4 (some .int) [] yX10_grown (d + 1) S0 S 17 [(0, vA x0), (1, vI x1), (2, vI x2), (3, vI x3)] [] Q := by
  intro n
  induction n with
  | zero => intro x0 x1 x2 x3 S h; exact h.elim
  | succ n ih =>
    intro x0 x1 x2 x3 S h
    exact j_iload_n 3 dX10_grown_17 rfl (j_if_lt (tgt := 51) dX10_grown_18 (by decide) h (fun h => j_aload_n 0 dX10_grown_51 rfl (j_iconst dX10_grown_52 (j_putZ 10 12 f_RX10_80 dX10_grown_53 h (fun h => j_iload_n 2 dX10_grown_56 rfl (j_aload_n 0 dX10_grown_57 rfl (j_getR 10 2 f_RX10_24 dX10_grown_58 h (fun b1 h => j_getI 7 9 f_RX10_132 dX10_grown_61 h (fun h => j_isub dX10_grown_64 (j_iret rfl dX10_grown_65 h))))))))) (fun h => j_aload_n 0 dX10_grown_21 rfl (j_getR 10 2 f_RX10_24 dX10_grown_22 h (fun b2 h => j_getR 7 5 f_RX10_200 dX10_grown_25 h (fun b3 h => j_iload_n 3 dX10_grown_28 rfl (j_iald dX10_grown_29 h (fun h => j_iload_n 1 dX10_grown_30 rfl (j_callS (rest := []) [vI (S.I b3 (x3).toNat), vI x1] k_RX10_184 w_2_192 rfl rfl (Nat.le_of_ble_eq_true rfl) dX10_grown_31 h (kI (fun r4 S4 h => j_if_eq (tgt := 45) dX10_grown_34 (by decide) h (fun h => JX10_grown_45 ih _ _ _ _ _ h) (fun h => j_aload_n 0 dX10_grown_37 rfl (j_getR 10 2 f_RX10_24 dX10_grown_38 h (fun b5 h => j_iload_n 3 dX10_grown_41 rfl (j_callV (rest := []) 7 [vI x3] k_RX10_211 ⟨w_5_161, w_5_162⟩ ⟨_, _, rfl⟩ (by decide) rfl rfl (Nat.le_of_ble_eq_true rfl) dX10_grown_42 h (kV (fun S6 h => JX10_grown_45 ih _ _ _ _ _ h)) (fun _ _ h => h.elim))))))) (fun _ _ h => h.elim)))))))))
def VX10_grown_0 (d : Nat) (Q : Out → MS → Prop) (x0 : Nat) (x1 : Int) (S : MS) : Prop :=
  S.K x0 = 10 ∧ Mw hX10_needThing yX10_needThing d [vA x0, vI x1] S (xV (fun S1 => S1.K x0 = 10 ∧ ∃ b2, S1.R x0 2 = some b2 ∧ (S1.K b2 = 7 ∧ (∃ m, VX10_grown_17 d Q m x0 x1 (S1.I b2 9) ((S1.I b2 9) - 1) S1))) (fun E S9 => Q (.inr E) S9))
theorem JX10_grown_0 {d : Nat} {S0 : MS} {Q : Out → MS → Prop} (x0 : Nat) (x1 : Int) (S : MS) (h : VX10_grown_0 d Q x0 x1 S) : Jw FinM RX10 cX10_grown 4 (some .int) [] yX10_grown (d + 1) S0 S 0 [(0, vA x0), (1, vI x1)] [] Q :=
  j_aload_n 0 dX10_grown_0 rfl (j_iload_n 1 dX10_grown_1 rfl (j_callV (rest := []) 10 [vI x1] k_RX10_158 ⟨w_5_67, p_2_12⟩ ⟨_, _, rfl⟩ (by decide) rfl rfl (Nat.le_of_ble_eq_true rfl) dX10_grown_2 h (kV (fun S1 h => j_aload_n 0 dX10_grown_5 rfl (j_getR 10 2 f_RX10_24 dX10_grown_6 h (fun b2 h => j_getI 7 9 f_RX10_132 dX10_grown_9 h (fun h => j_istore_n (lv2 := [(2, vI (S1.I b2 9)), (0, vA x0), (1, vI x1)]) dX10_grown_12 (by decide) rfl (j_iload_n 0 dX10_grown_13 rfl (j_iconst dX10_grown_14 (j_isub dX10_grown_15 (j_istore_n (lv2 := [(3, vI ((S1.I b2 9) - 1)), (2, vI (S1.I b2 9)), (0, vA x0), (1, vI x1)]) dX10_grown_16 (by decide) rfl (Exists.elim h (fun m h => j_sub [2, 3, 1, 0] rfl (JX10_grown_17 m _ _ _ _ _ h)))))))))))) (fun _ _ h => jx_out h)))
theorem MX10_grown {d : Nat} {x0 : Nat} {x1 : Int} {S : MS} {Q : Out → MS → Prop} (h : VX10_grown_0 d Q x0 x1 S) : Mw hX10_grown yX10_grown (d + 1) [vA x0, vI x1] S Q := Mw.ofJ (by decide) (Nat.le_of_ble_eq_true rfl) (JX10_grown_0 _ _ S h)
theorem dX10_played_0 : decode cX10_played 0 = .ok (.aload_n 0, 1) := by decide +kernel
theorem dX10_played_1 : decode cX10_played 1 = .ok (.iload_n 1, 1) := by decide +kernel
theorem dX10_played_2 : decode cX10_played 2 = .ok (.invokevirtual 166, 3) := by decide +kernel
theorem dX10_played_5 : decode cX10_played 5 = .ok (.iload_n 2, 1) := by decide +kernel
theorem dX10_played_6 : decode cX10_played 6 = .ok (.bipush 99, 2) := by decide +kernel
theorem dX10_played_8 : decode cX10_played 8 = .ok (.invokestatic 143, 3) := by decide +kernel
theorem dX10_played_11 : decode cX10_played 11 = .ok (.ifCond .ne 14, 3) := by decide +kernel
theorem dX10_played_14 : decode cX10_played 14 = .ok (.new 115, 3) := by decide +kernel
theorem dX10_played_17 : decode cX10_played 17 = .ok (.dup, 1) := by decide +kernel
theorem dX10_played_18 : decode cX10_played 18 = .ok (.ldc_w 377, 3) := by decide +kernel
theorem dX10_played_21 : decode cX10_played 21 = .ok (.invokespecial 119, 3) := by decide +kernel
theorem dX10_played_24 : decode cX10_played 24 = .ok (.athrow, 1) := by decide +kernel
theorem dX10_played_25 : decode cX10_played 25 = .ok (.iload 4, 2) := by decide +kernel
theorem dX10_played_27 : decode cX10_played 27 = .ok (.iconst 2, 1) := by decide +kernel
theorem dX10_played_28 : decode cX10_played 28 = .ok (.invokestatic 143, 3) := by decide +kernel
theorem dX10_played_31 : decode cX10_played 31 = .ok (.ifCond .ne 13, 3) := by decide +kernel
theorem dX10_played_34 : decode cX10_played 34 = .ok (.new 206, 3) := by decide +kernel
theorem dX10_played_37 : decode cX10_played 37 = .ok (.dup, 1) := by decide +kernel
theorem dX10_played_38 : decode cX10_played 38 = .ok (.ldc 208, 2) := by decide +kernel
theorem dX10_played_40 : decode cX10_played 40 = .ok (.invokespecial 210, 3) := by decide +kernel
theorem dX10_played_43 : decode cX10_played 43 = .ok (.athrow, 1) := by decide +kernel
theorem dX10_played_44 : decode cX10_played 44 = .ok (.aload_n 0, 1) := by decide +kernel
theorem dX10_played_45 : decode cX10_played 45 = .ok (.getfield 51, 3) := by decide +kernel
theorem dX10_played_48 : decode cX10_played 48 = .ok (.iconst 0, 1) := by decide +kernel
theorem dX10_played_49 : decode cX10_played 49 = .ok (.aaload, 1) := by decide +kernel
theorem dX10_played_50 : decode cX10_played 50 = .ok (.astore 5, 2) := by decide +kernel
theorem dX10_played_52 : decode cX10_played 52 = .ok (.aload 5, 2) := by decide +kernel
theorem dX10_played_54 : decode cX10_played 54 = .ok (.aload_n 0, 1) := by decide +kernel
theorem dX10_played_55 : decode cX10_played 55 = .ok (.invokevirtual 214, 3) := by decide +kernel
theorem dX10_played_58 : decode cX10_played 58 = .ok (.invokevirtual 379, 3) := by decide +kernel
theorem dX10_played_61 : decode cX10_played 61 = .ok (.aload_n 0, 1) := by decide +kernel
theorem dX10_played_62 : decode cX10_played 62 = .ok (.aload 5, 2) := by decide +kernel
theorem dX10_played_64 : decode cX10_played 64 = .ok (.aload_n 0, 1) := by decide +kernel
theorem dX10_played_65 : decode cX10_played 65 = .ok (.getfield 24, 3) := by decide +kernel
theorem dX10_played_68 : decode cX10_played 68 = .ok (.getfield 173, 3) := by decide +kernel
theorem dX10_played_71 : decode cX10_played 71 = .ok (.iload_n 1, 1) := by decide +kernel
theorem dX10_played_72 : decode cX10_played 72 = .ok (.iaload, 1) := by decide +kernel
theorem dX10_played_73 : decode cX10_played 73 = .ok (.iload_n 2, 1) := by decide +kernel
theorem dX10_played_74 : decode cX10_played 74 = .ok (.iload_n 3, 1) := by decide +kernel
theorem dX10_played_75 : decode cX10_played 75 = .ok (.invokevirtual 383, 3) := by decide +kernel
theorem dX10_played_78 : decode cX10_played 78 = .ok (.istore 6, 2) := by decide +kernel
theorem dX10_played_80 : decode cX10_played 80 = .ok (.iload 4, 2) := by decide +kernel
theorem dX10_played_82 : decode cX10_played 82 = .ok (.ifCond .ne 6, 3) := by decide +kernel
theorem dX10_played_85 : decode cX10_played 85 = .ok (.iload 6, 2) := by decide +kernel
theorem dX10_played_87 : decode cX10_played 87 = .ok (.ireturn, 1) := by decide +kernel
theorem dX10_played_88 : decode cX10_played 88 = .ok (.iload 4, 2) := by decide +kernel
theorem dX10_played_90 : decode cX10_played 90 = .ok (.iconst 1, 1) := by decide +kernel
theorem dX10_played_91 : decode cX10_played 91 = .ok (.if_icmp .ne 11, 3) := by decide +kernel
theorem dX10_played_94 : decode cX10_played 94 = .ok (.aload 5, 2) := by decide +kernel
theorem dX10_played_96 : decode cX10_played 96 = .ok (.getfield 218, 3) := by decide +kernel
theorem dX10_played_99 : decode cX10_played 99 = .ok (.goto 30, 3) := by decide +kernel
theorem dX10_played_102 : decode cX10_played 102 = .ok (.aload 5, 2) := by decide +kernel
theorem dX10_played_104 : decode cX10_played 104 = .ok (.aload_n 0, 1) := by decide +kernel
theorem dX10_played_105 : decode cX10_played 105 = .ok (.invokevirtual 229, 3) := by decide +kernel
theorem dX10_played_108 : decode cX10_played 108 = .ok (.aload_n 0, 1) := by decide +kernel
theorem dX10_played_109 : decode cX10_played 109 = .ok (.getfield 24, 3) := by decide +kernel
theorem dX10_played_112 : decode cX10_played 112 = .ok (.invokevirtual 387, 3) := by decide +kernel
theorem dX10_played_115 : decode cX10_played 115 = .ok (.invokevirtual 242, 3) := by decide +kernel
theorem dX10_played_118 : decode cX10_played 118 = .ok (.invokevirtual 245, 3) := by decide +kernel
theorem dX10_played_121 : decode cX10_played 121 = .ok (.ifCond .eq 7, 3) := by decide +kernel
theorem dX10_played_124 : decode cX10_played 124 = .ok (.iconst 1, 1) := by decide +kernel
theorem dX10_played_125 : decode cX10_played 125 = .ok (.goto 4, 3) := by decide +kernel
theorem dX10_played_128 : decode cX10_played 128 = .ok (.iconst 0, 1) := by decide +kernel
theorem dX10_played_129 : decode cX10_played 129 = .ok (.ireturn, 1) := by decide +kernel
def VX10_played_0 (d : Nat) (Q : Out → MS → Prop) (x0 : Nat) (x1 : Int) (x2 : Int) (x3 : Int) (x4 : Int) (S : MS) : Prop :=
  S.K x0 = 10 ∧ Mw hX10_needScale yX10_needScale d [vA x0, vI x1] S (xV (fun S1 => Mw hX10_within yX10_within d [vI x2, vI 99] S1 (oI (fun r2 S2 => R32 r2 ∧ (¬ (r2 = 0) → Mw hX10_within yX10_within d [vI x4, vI 2] S2 (oI (fun r3 S3 => R32 r3 ∧ (¬ (r3 = 0) → S3.K x0 = 10 ∧ ∃ b4, S3.R x0 7 = some b4 ∧ ((S3.K b4 = 19 ∧ (17 ≤ 19 ∧ 19 < 21) ∧ 0 ≤ (0 : Int) ∧ (0 : Int) < S3.N b4) ∧ ∃ b5, S3.R b4 ((0 : Int)).toNat = some b5 ∧ (S3.K x0 = 10 ∧ Mw hX10_rowsLeft yX10_rowsLeft d [vA x0] S3 (oA (fun r6 S6 => S6.K b5 = 5 ∧ Mw hX5_copy yX5_copy d [vA b5, vA r6] S6 (oV (fun S7 => S7.K x0 = 10 ∧ ∃ b8, S7.R x0 2 = some b8 ∧ (S7.K b8 = 7 ∧ ∃ b9, S7.R b8 1 = some b9 ∧ ((S7.K b9 = 13 ∧ 0 ≤ x1 ∧ x1 < S7.N b9) ∧ (S7.K x0 = 10 ∧ Mw hX10_play yX10_play d [vA x0, vA b5, vI (S7.I b9 (x1).toNat), vI x2, vI x3] S7 (oI (fun r10 S10 => R32 x4 ∧ (¬ (x4 = 0) → (R32 x4 ∧ R32 (1 : Int)) ∧ (¬ (x4 = (1 : Int)) → S10.K x0 = 10 ∧ Mw hX10_allRows yX10_allRows d [vA x0] S10 (oA (fun r11 S11 => S11.K x0 = 10 ∧ ∃ b12, S11.R x0 2 = some b12 ∧ (S11.K b12 = 7 ∧ Mw hX7_trueRow yX7_trueRow d [vA b12] S11 (oI (fun r13 S13 => S13.K r11 = 0 ∧ Mw hX0_numberOf yX0_numberOf d [vA r11, vI r13] S13 (oI (fun r14 S14 => S14.K b5 = 5 ∧ Mw hX5_has yX5_has d [vA b5, vI r14] S14 (oI (fun r15 S15 => R32 r15 ∧ ((r15 = 0) → Q (.inl (some (vI 0))) S15) ∧ (¬ (r15 = 0) → Q (.inl (some (vI 1))) S15))))))))))) ∧ ((x4 = (1 : Int)) → S10.K b5 = 5 ∧ (Q (.inl (some (vI (S10.I b5 0)))) S10))) ∧ ((x4 = 0) → Q (.inl (some (vI r10))) S10))))))))))))) ∧ ((r3 = 0) → 5 ≤ d ∧ Q (.inr "java/util/NoSuchElementException") (S3.junk 6))))) ∧ ((r2 = 0) → 5 ≤ d ∧ Q (.inr "java/lang/IllegalArgumentException") (S2.junk 6))))) (fun E S9 => Q (.inr E) S9))
theorem JX10_played_0 {d : Nat} {S0 : MS} {Q : Out → MS → Prop} (x0 : Nat) (x1 : Int) (x2 : Int) (x3 : Int) (x4 : Int) (S : MS) (h : VX10_played_0 d Q x0 x1 x2 x3 x4 S) : Jw FinM RX10 cX10_played 7 (some .int) [] yX10_played (d + 1) S0 S 0 [(0, vA x0), (1, vI x1), (2, vI x2), (3, vI x3), (4, vI x4)] [] Q :=
  j_aload_n 0 dX10_played_0 rfl (j_iload_n 1 dX10_played_1 rfl (j_callV (rest := []) 10 [vI x1] k_RX10_166 ⟨w_5_99, p_2_13⟩ ⟨_, _, rfl⟩ (by decide) rfl rfl (Nat.le_of_ble_eq_true rfl) dX10_played_2 h (kV (fun S1 h => j_iload_n 2 dX10_played_5 rfl (j_bipush dX10_played_6 rfl (j_callS (rest := []) [vI x2, vI 99] k_RX10_143 w_5_52 rfl rfl (Nat.le_of_ble_eq_true rfl) dX10_played_8 h (kI (fun r2 S2 h => j_if_ne (tgt := 25) dX10_played_11 (by decide) h (fun h => j_iload 4 dX10_played_25 rfl (j_iconst dX10_played_27 (j_callS (rest := []) [vI x4, vI 2] k_RX10_143 w_5_52 rfl rfl (Nat.le_of_ble_eq_true rfl) dX10_played_28 h (kI (fun r3 S3 h => j_if_ne (tgt := 44) dX10_played_31 (by decide) h (fun h => j_aload_n 0 dX10_played_44 rfl (j_getR 10 7 f_RX10_51 dX10_played_45 h (fun b4 h => j_iconst dX10_played_48 (j_aald 19 dX10_played_49 h (fun b5 h => j_astore (lv2 := [(5, vA b5), (0, vA x0), (1, vI x1), (2, vI x2), (3, vI x3), (4, vI x4)]) dX10_played_50 (by decide) rfl (j_aload 0 dX10_played_52 rfl (j_aload_n 1 dX10_played_54 rfl (j_callV (rest := [vA b5]) 10 [] k_RX10_214 ⟨w_2_57, p_1_0⟩ ⟨_, _, rfl⟩ (by decide) rfl rfl (Nat.le_of_ble_eq_true rfl) dX10_played_55 h (kA (fun r6 S6 h => j_callV (rest := []) 5 [vA r6] k_RX10_379 ⟨w_3_164, w_3_165⟩ ⟨_, _, rfl⟩ (by decide) rfl rfl (Nat.le_of_ble_eq_true rfl) dX10_played_58 h (kV (fun S7 h => j_aload_n 1 dX10_played_61 rfl (j_aload 0 dX10_played_62 rfl (j_aload_n 1 dX10_played_64 rfl (j_getR 10 2 f_RX10_24 dX10_played_65 h (fun b8 h => j_getR 7 1 f_RX10_173 dX10_played_68 h (fun b9 h => j_iload_n 2 dX10_played_71 rfl (j_iald dX10_played_72 h (fun h => j_iload_n 3 dX10_played_73 rfl (j_iload_n 4 dX10_played_74 rfl (j_callV (rest := []) 10 [vA b5, vI (S7.I b9 (x1).toNat), vI x2, vI x3] k_RX10_383 ⟨w_6_157, p_3_10⟩ ⟨_, _, rfl⟩ (by decide) rfl rfl (Nat.le_of_ble_eq_true rfl) dX10_played_75 h (kI (fun r10 S10 h => j_istore (lv2 := [(6, vI r10), (5, vA b5), (0, vA x0), (1, vI x1), (2, vI x2), (3, vI x3), (4, vI x4)]) dX10_played_78 (by decide) rfl (j_iload 6 dX10_played_80 rfl (j_if_ne (tgt := 88) dX10_played_82 (by decide) h (fun h => j_iload 6 dX10_played_88 rfl (j_iconst dX10_played_90 (j_icmp_ne (tgt := 102) dX10_played_91 (by decide) h (fun h => j_aload 1 dX10_played_102 rfl (j_aload_n 2 dX10_played_104 rfl (j_callV (rest := [vA b5]) 10 [] k_RX10_229 ⟨w_2_61, p_1_1⟩ ⟨_, _, rfl⟩ (by decide) rfl rfl (Nat.le_of_ble_eq_true rfl) dX10_played_105 h (kA (fun r11 S11 h => j_aload_n 2 dX10_played_108 rfl (j_getR 10 2 f_RX10_24 dX10_played_109 h (fun b12 h => j_callV (rest := [vA r11, vA b5]) 7 [] k_RX10_387 ⟨w_6_166, w_6_167⟩ ⟨_, _, rfl⟩ (by decide) rfl rfl (Nat.le_of_ble_eq_true rfl) dX10_played_112 h (kI (fun r13 S13 h => j_callV (rest := [vA b5]) 0 [vI r13] k_RX10_242 ⟨w_4_1, w_4_2⟩ ⟨_, _, rfl⟩ (by decide) rfl rfl (Nat.le_of_ble_eq_true rfl) dX10_played_115 h (kI (fun r14 S14 h => j_callV (rest := []) 5 [vI r14] k_RX10_245 ⟨w_4_5, w_4_6⟩ ⟨_, _, rfl⟩ (by decide) rfl rfl (Nat.le_of_ble_eq_true rfl) dX10_played_118 h (kI (fun r15 S15 h => j_if_eq (tgt := 128) dX10_played_121 (by decide) h (fun h => j_iconst dX10_played_128 (j_iret rfl dX10_played_129 h)) (fun h => j_iconst dX10_played_124 (j_goto (tgt := 129) dX10_played_125 (by decide) (j_iret rfl dX10_played_129 h))))) (fun _ _ h => h.elim))) (fun _ _ h => h.elim))) (fun _ _ h => h.elim))))) (fun _ _ h => h.elim)))) (fun h => j_aload 1 dX10_played_94 rfl (j_getI 5 0 f_RX10_218 dX10_played_96 h (fun h => j_goto (tgt := 129) dX10_played_99 (by decide) (j_iret rfl dX10_played_129 h))))))) (fun h => j_iload 0 dX10_played_85 rfl (j_iret rfl dX10_played_87 h)))))) (fun _ _ h => h.elim)))))))))))) (fun _ _ h => h.elim))) (fun _ _ h => h.elim))))))))) (fun h => j_throw t_RX10_206_210 (List.mem_of_getElem? (i := 9) rfl) dX10_played_34 dX10_played_37 dX10_played_38 dX10_played_40 dX10_played_43 (Nat.le_of_ble_eq_true rfl) rfl h))) (fun _ _ h => h.elim)))) (fun h => j_throwW t_RX10_115_119 (List.mem_of_getElem? (i := 12) rfl) dX10_played_14 dX10_played_17 dX10_played_18 dX10_played_21 dX10_played_24 (Nat.le_of_ble_eq_true rfl) rfl h))) (fun _ _ h => h.elim))))) (fun _ _ h => jx_out h)))
theorem MX10_played {d : Nat} {x0 : Nat} {x1 : Int} {x2 : Int} {x3 : Int} {x4 : Int} {S : MS} {Q : Out → MS → Prop} (h : VX10_played_0 d Q x0 x1 x2 x3 x4 S) : Mw hX10_played yX10_played (d + 1) [vA x0, vI x1, vI x2, vI x3, vI x4] S Q := Mw.ofJ (by decide) (Nat.le_of_ble_eq_true rfl) (JX10_played_0 _ _ _ _ _ S h)
theorem dX10_sures_0 : decode cX10_sures 0 = .ok (.aload_n 0, 1) := by decide +kernel
theorem dX10_sures_1 : decode cX10_sures 1 = .ok (.invokevirtual 229, 3) := by decide +kernel
theorem dX10_sures_4 : decode cX10_sures 4 = .ok (.iconst 0, 1) := by decide +kernel
theorem dX10_sures_5 : decode cX10_sures 5 = .ok (.invokevirtual 390, 3) := by decide +kernel
theorem dX10_sures_8 : decode cX10_sures 8 = .ok (.astore_n 2, 1) := by decide +kernel
theorem dX10_sures_9 : decode cX10_sures 9 = .ok (.iconst 0, 1) := by decide +kernel
theorem dX10_sures_10 : decode cX10_sures 10 = .ok (.istore_n 3, 1) := by decide +kernel
theorem dX10_sures_11 : decode cX10_sures 11 = .ok (.iconst 0, 1) := by decide +kernel
theorem dX10_sures_12 : decode cX10_sures 12 = .ok (.istore 4, 2) := by decide +kernel
theorem dX10_sures_14 : decode cX10_sures 14 = .ok (.iload 4, 2) := by decide +kernel
theorem dX10_sures_16 : decode cX10_sures 16 = .ok (.aload_n 2, 1) := by decide +kernel
theorem dX10_sures_17 : decode cX10_sures 17 = .ok (.getfield 392, 3) := by decide +kernel
theorem dX10_sures_20 : decode cX10_sures 20 = .ok (.arraylength, 1) := by decide +kernel
theorem dX10_sures_21 : decode cX10_sures 21 = .ok (.if_icmp .ge 50, 3) := by decide +kernel
theorem dX10_sures_24 : decode cX10_sures 24 = .ok (.aload_n 2, 1) := by decide +kernel
theorem dX10_sures_25 : decode cX10_sures 25 = .ok (.getfield 392, 3) := by decide +kernel
theorem dX10_sures_28 : decode cX10_sures 28 = .ok (.iload 4, 2) := by decide +kernel
theorem dX10_sures_30 : decode cX10_sures 30 = .ok (.iaload, 1) := by decide +kernel
theorem dX10_sures_31 : decode cX10_sures 31 = .ok (.istore 5, 2) := by decide +kernel
theorem dX10_sures_33 : decode cX10_sures 33 = .ok (.aload_n 0, 1) := by decide +kernel
theorem dX10_sures_34 : decode cX10_sures 34 = .ok (.iload 5, 2) := by decide +kernel
theorem dX10_sures_36 : decode cX10_sures 36 = .ok (.invokevirtual 251, 3) := by decide +kernel
theorem dX10_sures_39 : decode cX10_sures 39 = .ok (.invokestatic 353, 3) := by decide +kernel
theorem dX10_sures_42 : decode cX10_sures 42 = .ok (.iconst 1, 1) := by decide +kernel
theorem dX10_sures_43 : decode cX10_sures 43 = .ok (.if_icmp .ne 22, 3) := by decide +kernel
theorem dX10_sures_46 : decode cX10_sures 46 = .ok (.iload_n 1, 1) := by decide +kernel
theorem dX10_sures_47 : decode cX10_sures 47 = .ok (.ifCond .eq 15, 3) := by decide +kernel
theorem dX10_sures_50 : decode cX10_sures 50 = .ok (.aload_n 0, 1) := by decide +kernel
theorem dX10_sures_51 : decode cX10_sures 51 = .ok (.getfield 24, 3) := by decide +kernel
theorem dX10_sures_54 : decode cX10_sures 54 = .ok (.iload 5, 2) := by decide +kernel
theorem dX10_sures_56 : decode cX10_sures 56 = .ok (.invokevirtual 395, 3) := by decide +kernel
theorem dX10_sures_59 : decode cX10_sures 59 = .ok (.ifCond .ne 6, 3) := by decide +kernel
theorem dX10_sures_62 : decode cX10_sures 62 = .ok (.iinc 3 1, 3) := by decide +kernel
theorem dX10_sures_65 : decode cX10_sures 65 = .ok (.iinc 4 1, 3) := by decide +kernel
theorem dX10_sures_68 : decode cX10_sures 68 = .ok (.goto (-54), 3) := by decide +kernel
theorem dX10_sures_71 : decode cX10_sures 71 = .ok (.iload_n 3, 1) := by decide +kernel
theorem dX10_sures_72 : decode cX10_sures 72 = .ok (.ireturn, 1) := by decide +kernel
def VX10_sures_65 (d : Nat) (c14 : Nat → Int → Nat → Int → Int → MS → Prop) (Q : Out → MS → Prop) (x0 : Nat) (x1 : Int) (x2 : Nat) (x3 : Int) (x4 : Int) (S : MS) : Prop :=
  c14 x0 x1 x2 x3 (x4 + 1) S
theorem JX10_sures_65 {d : Nat} {c14 : Nat → Int → Nat → Int → Int → MS → Prop} {S0 : MS} {Q : Out → MS → Prop} (hc14 : ∀ (x0 : Nat) (x1 : Int) (x2 : Nat) (x3 : Int) (x4 : Int) (S : MS), c14 x0 x1 x2 x3 x4 S → Jw FinM RX10 cX10_sures 6 (some .int) [] yX10_sures (d + 1) S0 S 14 [(0, vA x0), (1, vI x1), (2, vA x2), (3, vI x3), (4, vI x4)] [] Q) (x0 : Nat) (x1 : Int) (x2 : Nat) (x3 : Int) (x4 : Int) (S : MS) (h : VX10_sures_65 d c14 Q x0 x1 x2 x3 x4 S) : Jw FinM RX10 cX10_sures 6 (some .int) [] yX10_sures (d + 1) S0 S 65 [(0, vA x0), (1, vI x1), (2, vA x2), (3, vI x3), (4, vI x4)] [] Q :=
  j_iinc 4 (lv2 := [(4, vI (x4 + 1)), (0, vA x0), (1, vI x1), (2, vA x2), (3, vI x3)]) dX10_sures_65 rfl (by decide) rfl (j_goto (tgt := 14) dX10_sures_68 (by decide) (j_sub [1, 2, 3, 4, 0] rfl (hc14 _ _ _ _ _ _ h)))
def VX10_sures_62 (d : Nat) (c14 : Nat → Int → Nat → Int → Int → MS → Prop) (Q : Out → MS → Prop) (x0 : Nat) (x1 : Int) (x2 : Nat) (x3 : Int) (x4 : Int) (S : MS) : Prop :=
  VX10_sures_65 d c14 Q x0 x1 x2 (x3 + 1) x4 S
theorem JX10_sures_62 {d : Nat} {c14 : Nat → Int → Nat → Int → Int → MS → Prop} {S0 : MS} {Q : Out → MS → Prop} (hc14 : ∀ (x0 : Nat) (x1 : Int) (x2 : Nat) (x3 : Int) (x4 : Int) (S : MS), c14 x0 x1 x2 x3 x4 S → Jw FinM RX10 cX10_sures 6 (some .int) [] yX10_sures (d + 1) S0 S 14 [(0, vA x0), (1, vI x1), (2, vA x2), (3, vI x3), (4, vI x4)] [] Q) (x0 : Nat) (x1 : Int) (x2 : Nat) (x3 : Int) (x4 : Int) (S : MS) (h : VX10_sures_62 d c14 Q x0 x1 x2 x3 x4 S) : Jw FinM RX10 cX10_sures 6 (some .int) [] yX10_sures (d + 1) S0 S 62 [(0, vA x0), (1, vI x1), (2, vA x2), (3, vI x3), (4, vI x4)] [] Q :=
  j_iinc 3 (lv2 := [(3, vI (x3 + 1)), (0, vA x0), (1, vI x1), (2, vA x2), (4, vI x4)]) dX10_sures_62 rfl (by decide) rfl (j_sub [1, 2, 3, 0, 4] rfl (JX10_sures_65 hc14 _ _ _ _ _ _ h))
def VX10_sures_14 (d : Nat) (Q : Out → MS → Prop) : Nat → Nat → Int → Nat → Int → Int → MS → Prop
  | 0, _, _, _, _, _, _ => False
  | n + 1, x0, x1, x2, x3, x4, S => S.K x2 = 2 ∧ ∃ b1, S.R x2 1 = some b1 ∧ ((12 ≤ S.K b1 ∧ S.K b1 < 21) ∧ ((R32 x4 ∧ R32 ((S.N b1 : Int))) ∧ ((((S.N b1 : Int)) ≤ x4) → Q (.inl (some (vI x3))) S) ∧ (¬ (((S.N b1 : Int)) ≤ x4) → S.K x2 = 2 ∧ ∃ b2, S.R x2 1 = some b2 ∧ ((S.K b2 = 13 ∧ 0 ≤ x4 ∧ x4 < S.N b2) ∧ (S.K x0 = 10 ∧ Mw hX10_mayRise yX10_mayRise d [vA x0, vI (S.I b2 (x4).toNat)] S (oI (fun r3 S3 => Mw hJ6_bitCount_0f7a4 yJ6_bitCount_0f7a4 d [vI r3] S3 (oI (fun r4 S4 => (R32 r4 ∧ R32 (1 : Int)) ∧ (¬ (r4 = (1 : Int)) → VX10_sures_65 d (VX10_sures_14 d Q n) Q x0 x1 x2 x3 x4 S4) ∧ ((r4 = (1 : Int)) → R32 x1 ∧ ((x1 = 0) → VX10_sures_62 d (VX10_sures_14 d Q n) Q x0 x1 x2 x3 x4 S4) ∧ (¬ (x1 = 0) → S4.K x0 = 10 ∧ ∃ b5, S4.R x0 2 = some b5 ∧ (S4.K b5 = 7 ∧ Mw hX7_isNoted yX7_isNoted d [vA b5, vI (S.I b2 (x4).toNat)] S4 (oI (fun r6 S6 => R32 r6 ∧ (¬ (r6 = 0) → VX10_sures_65 d (VX10_sures_14 d Q n) Q x0 x1 x2 x3 x4 S6) ∧ ((r6 = 0) → VX10_sures_62 d (VX10_sures_14 d Q n) Q x0 x1 x2 x3 x4 S6)))))))))))))))
theorem JX10_sures_14 {d : Nat} {S0 : MS} {Q : Out → MS → Prop} : ∀ (n : Nat) (x0 : Nat) (x1 : Int) (x2 : Nat) (x3 : Int) (x4 : Int) (S : MS), VX10_sures_14 d Q n x0 x1 x2 x3 x4 S → Jw FinM RX10 cX10_sures 6 (some .int) [] yX10_sures (d + 1) S0 S 14 [(0, vA x0), (1, vI x1), (2, vA x2), (3, vI x3), (4, vI x4)] [] Q := by
  intro n
  induction n with
  | zero => intro x0 x1 x2 x3 x4 S h; exact h.elim
  | succ n ih =>
    intro x0 x1 x2 x3 x4 S h
    exact j_iload 4 dX10_sures_14 rfl (j_aload_n 2 dX10_sures_16 rfl (j_getR 2 1 f_RX10_392 dX10_sures_17 h (fun b1 h => j_alen dX10_sures_20 h (fun h => j_icmp_ge (tgt := 71) dX10_sures_21 (by decide) h (fun h => j_iload_n 3 dX10_sures_71 rfl (j_iret rfl dX10_sures_72 h)) (fun h => j_aload_n 2 dX10_sures_24 rfl (j_getR 2 1 f_RX10_392 dX10_sures_25 h (fun b2 h => j_iload 4 dX10_sures_28 rfl (j_iald dX10_sures_30 h (fun h => j_istore (lv2 := [(5, vI (S.I b2 (x4).toNat)), (0, vA x0), (1, vI x1), (2, vA x2), (3, vI x3), (4, vI x4)]) dX10_sures_31 (by decide) rfl (j_aload_n 1 dX10_sures_33 rfl (j_iload 0 dX10_sures_34 rfl (j_callV (rest := []) 10 [vI (S.I b2 (x4).toNat)] k_RX10_251 ⟨w_3_137, p_1_11⟩ ⟨_, _, rfl⟩ (by decide) rfl rfl (Nat.le_of_ble_eq_true rfl) dX10_sures_36 h (kI (fun r3 S3 h => j_callS (rest := []) [vI r3] k_RX10_353 w_2_86 rfl rfl (Nat.le_of_ble_eq_true rfl) dX10_sures_39 h (kI (fun r4 S4 h => j_iconst dX10_sures_42 (j_icmp_ne (tgt := 65) dX10_sures_43 (by decide) h (fun h => j_sub [1, 2, 3, 4, 5] rfl (JX10_sures_65 ih _ _ _ _ _ _ h)) (fun h => j_iload_n 2 dX10_sures_46 rfl (j_if_eq (tgt := 62) dX10_sures_47 (by decide) h (fun h => j_sub [1, 2, 3, 4, 5] rfl (JX10_sures_62 ih _ _ _ _ _ _ h)) (fun h => j_aload_n 1 dX10_sures_50 rfl (j_getR 10 2 f_RX10_24 dX10_sures_51 h (fun b5 h => j_iload 0 dX10_sures_54 rfl (j_callV (rest := []) 7 [vI (S.I b2 (x4).toNat)] k_RX10_395 ⟨w_3_143, w_3_144⟩ ⟨_, _, rfl⟩ (by decide) rfl rfl (Nat.le_of_ble_eq_true rfl) dX10_sures_56 h (kI (fun r6 S6 h => j_if_ne (tgt := 65) dX10_sures_59 (by decide) h (fun h => j_sub [1, 2, 3, 4, 5] rfl (JX10_sures_65 ih _ _ _ _ _ _ h)) (fun h => j_sub [1, 2, 3, 4, 5] rfl (JX10_sures_62 ih _ _ _ _ _ _ h)))) (fun _ _ h => h.elim)))))))))) (fun _ _ h => h.elim))) (fun _ _ h => h.elim)))))))))))))
def VX10_sures_0 (d : Nat) (Q : Out → MS → Prop) (x0 : Nat) (x1 : Int) (S : MS) : Prop :=
  S.K x0 = 10 ∧ Mw hX10_allRows yX10_allRows d [vA x0] S (oA (fun r1 S1 => S1.K r1 = 0 ∧ Mw hX0_layings yX0_layings d [vA r1, vI 0] S1 (oA (fun r2 S2 => ∃ m, VX10_sures_14 d Q m x0 x1 r2 0 0 S2))))
theorem JX10_sures_0 {d : Nat} {S0 : MS} {Q : Out → MS → Prop} (x0 : Nat) (x1 : Int) (S : MS) (h : VX10_sures_0 d Q x0 x1 S) : Jw FinM RX10 cX10_sures 6 (some .int) [] yX10_sures (d + 1) S0 S 0 [(0, vA x0), (1, vI x1)] [] Q :=
  j_aload_n 0 dX10_sures_0 rfl (j_callV (rest := []) 10 [] k_RX10_229 ⟨w_2_61, p_1_1⟩ ⟨_, _, rfl⟩ (by decide) rfl rfl (Nat.le_of_ble_eq_true rfl) dX10_sures_1 h (kA (fun r1 S1 h => j_iconst dX10_sures_4 (j_callV (rest := []) 0 [vI 0] k_RX10_390 ⟨w_2_219, w_2_220⟩ ⟨_, _, rfl⟩ (by decide) rfl rfl (Nat.le_of_ble_eq_true rfl) dX10_sures_5 h (kA (fun r2 S2 h => j_astore_n (lv2 := [(2, vA r2), (0, vA x0), (1, vI x1)]) dX10_sures_8 (by decide) rfl (j_iconst dX10_sures_9 (j_istore_n (lv2 := [(3, vI 0), (2, vA r2), (0, vA x0), (1, vI x1)]) dX10_sures_10 (by decide) rfl (j_iconst dX10_sures_11 (j_istore (lv2 := [(4, vI 0), (3, vI 0), (2, vA r2), (0, vA x0), (1, vI x1)]) dX10_sures_12 (by decide) rfl (Exists.elim h (fun m h => j_sub [3, 4, 2, 1, 0] rfl (JX10_sures_14 m _ _ _ _ _ _ h))))))))) (fun _ _ h => h.elim)))) (fun _ _ h => h.elim))
theorem MX10_sures {d : Nat} {x0 : Nat} {x1 : Int} {S : MS} {Q : Out → MS → Prop} (h : VX10_sures_0 d Q x0 x1 S) : Mw hX10_sures yX10_sures (d + 1) [vA x0, vI x1] S Q := Mw.ofJ (by decide) (Nat.le_of_ble_eq_true rfl) (JX10_sures_0 _ _ S h)
theorem dX10_pair_0 : decode cX10_pair 0 = .ok (.iconst 0, 1) := by decide +kernel
theorem dX10_pair_1 : decode cX10_pair 1 = .ok (.istore_n 2, 1) := by decide +kernel
theorem dX10_pair_2 : decode cX10_pair 2 = .ok (.iconst 0, 1) := by decide +kernel
theorem dX10_pair_3 : decode cX10_pair 3 = .ok (.istore_n 3, 1) := by decide +kernel
theorem dX10_pair_4 : decode cX10_pair 4 = .ok (.iload_n 3, 1) := by decide +kernel
theorem dX10_pair_5 : decode cX10_pair 5 = .ok (.aload_n 0, 1) := by decide +kernel
theorem dX10_pair_6 : decode cX10_pair 6 = .ok (.getfield 24, 3) := by decide +kernel
theorem dX10_pair_9 : decode cX10_pair 9 = .ok (.getfield 261, 3) := by decide +kernel
theorem dX10_pair_12 : decode cX10_pair 12 = .ok (.if_icmp .ge 65, 3) := by decide +kernel
theorem dX10_pair_15 : decode cX10_pair 15 = .ok (.iload_n 3, 1) := by decide +kernel
theorem dX10_pair_16 : decode cX10_pair 16 = .ok (.iconst 1, 1) := by decide +kernel
theorem dX10_pair_17 : decode cX10_pair 17 = .ok (.iadd, 1) := by decide +kernel
theorem dX10_pair_18 : decode cX10_pair 18 = .ok (.istore 4, 2) := by decide +kernel
theorem dX10_pair_20 : decode cX10_pair 20 = .ok (.iload 4, 2) := by decide +kernel
theorem dX10_pair_22 : decode cX10_pair 22 = .ok (.aload_n 0, 1) := by decide +kernel
theorem dX10_pair_23 : decode cX10_pair 23 = .ok (.getfield 24, 3) := by decide +kernel
theorem dX10_pair_26 : decode cX10_pair 26 = .ok (.getfield 261, 3) := by decide +kernel
theorem dX10_pair_29 : decode cX10_pair 29 = .ok (.if_icmp .ge 42, 3) := by decide +kernel
theorem dX10_pair_32 : decode cX10_pair 32 = .ok (.aload_n 0, 1) := by decide +kernel
theorem dX10_pair_33 : decode cX10_pair 33 = .ok (.invokevirtual 229, 3) := by decide +kernel
theorem dX10_pair_36 : decode cX10_pair 36 = .ok (.aload_n 0, 1) := by decide +kernel
theorem dX10_pair_37 : decode cX10_pair 37 = .ok (.invokevirtual 214, 3) := by decide +kernel
theorem dX10_pair_40 : decode cX10_pair 40 = .ok (.iload_n 3, 1) := by decide +kernel
theorem dX10_pair_41 : decode cX10_pair 41 = .ok (.iload 4, 2) := by decide +kernel
theorem dX10_pair_43 : decode cX10_pair 43 = .ok (.invokevirtual 264, 3) := by decide +kernel
theorem dX10_pair_46 : decode cX10_pair 46 = .ok (.ifCond .eq 19, 3) := by decide +kernel
theorem dX10_pair_49 : decode cX10_pair 49 = .ok (.iload_n 2, 1) := by decide +kernel
theorem dX10_pair_50 : decode cX10_pair 50 = .ok (.iload_n 1, 1) := by decide +kernel
theorem dX10_pair_51 : decode cX10_pair 51 = .ok (.if_icmp .ne 11, 3) := by decide +kernel
theorem dX10_pair_54 : decode cX10_pair 54 = .ok (.bipush 10, 2) := by decide +kernel
theorem dX10_pair_56 : decode cX10_pair 56 = .ok (.iload_n 3, 1) := by decide +kernel
theorem dX10_pair_57 : decode cX10_pair 57 = .ok (.imul, 1) := by decide +kernel
theorem dX10_pair_58 : decode cX10_pair 58 = .ok (.iload 4, 2) := by decide +kernel
theorem dX10_pair_60 : decode cX10_pair 60 = .ok (.iadd, 1) := by decide +kernel
theorem dX10_pair_61 : decode cX10_pair 61 = .ok (.ireturn, 1) := by decide +kernel
theorem dX10_pair_62 : decode cX10_pair 62 = .ok (.iinc 2 1, 3) := by decide +kernel
theorem dX10_pair_65 : decode cX10_pair 65 = .ok (.iinc 4 1, 3) := by decide +kernel
theorem dX10_pair_68 : decode cX10_pair 68 = .ok (.goto (-48), 3) := by decide +kernel
theorem dX10_pair_71 : decode cX10_pair 71 = .ok (.iinc 3 1, 3) := by decide +kernel
theorem dX10_pair_74 : decode cX10_pair 74 = .ok (.goto (-70), 3) := by decide +kernel
theorem dX10_pair_77 : decode cX10_pair 77 = .ok (.iconst (-1), 1) := by decide +kernel
theorem dX10_pair_78 : decode cX10_pair 78 = .ok (.ireturn, 1) := by decide +kernel
def VX10_pair_65 (d : Nat) (c4 : Nat → Int → Int → Int → MS → Prop) (c20 : Nat → Int → Int → Int → Int → MS → Prop) (Q : Out → MS → Prop) (x0 : Nat) (x1 : Int) (x2 : Int) (x3 : Int) (x4 : Int) (S : MS) : Prop :=
  c20 x0 x1 x2 x3 (x4 + 1) S
theorem JX10_pair_65 {d : Nat} {c4 : Nat → Int → Int → Int → MS → Prop} {c20 : Nat → Int → Int → Int → Int → MS → Prop} {S0 : MS} {Q : Out → MS → Prop} (hc4 : ∀ (x0 : Nat) (x1 : Int) (x2 : Int) (x3 : Int) (S : MS), c4 x0 x1 x2 x3 S → Jw FinM RX10 cX10_pair 5 (some .int) [] yX10_pair (d + 1) S0 S 4 [(0, vA x0), (1, vI x1), (2, vI x2), (3, vI x3)] [] Q) (hc20 : ∀ (x0 : Nat) (x1 : Int) (x2 : Int) (x3 : Int) (x4 : Int) (S : MS), c20 x0 x1 x2 x3 x4 S → Jw FinM RX10 cX10_pair 5 (some .int) [] yX10_pair (d + 1) S0 S 20 [(0, vA x0), (1, vI x1), (2, vI x2), (3, vI x3), (4, vI x4)] [] Q) (x0 : Nat) (x1 : Int) (x2 : Int) (x3 : Int) (x4 : Int) (S : MS) (h : VX10_pair_65 d c4 c20 Q x0 x1 x2 x3 x4 S) : Jw FinM RX10 cX10_pair 5 (some .int) [] yX10_pair (d + 1) S0 S 65 [(0, vA x0), (1, vI x1), (2, vI x2), (3, vI x3), (4, vI x4)] [] Q :=
  j_iinc 4 (lv2 := [(4, vI (x4 + 1)), (0, vA x0), (1, vI x1), (2, vI x2), (3, vI x3)]) dX10_pair_65 rfl (by decide) rfl (j_goto (tgt := 20) dX10_pair_68 (by decide) (j_sub [1, 2, 3, 4, 0] rfl (hc20 _ _ _ _ _ _ h)))
def VX10_pair_20 (d : Nat) (c4 : Nat → Int → Int → Int → MS → Prop) (Q : Out → MS → Prop) : Nat → Nat → Int → Int → Int → Int → MS → Prop
  | 0, _, _, _, _, _, _ => False
  | n + 1, x0, x1, x2, x3, x4, S => S.K x0 = 10 ∧ ∃ b1, S.R x0 2 = some b1 ∧ (S.K b1 = 7 ∧ ((R32 x4 ∧ R32 (S.I b1 7)) ∧ (((S.I b1 7) ≤ x4) → c4 x0 x1 x2 (x3 + 1) S) ∧ (¬ ((S.I b1 7) ≤ x4) → S.K x0 = 10 ∧ Mw hX10_allRows yX10_allRows d [vA x0] S (oA (fun r2 S2 => S2.K x0 = 10 ∧ Mw hX10_rowsLeft yX10_rowsLeft d [vA x0] S2 (oA (fun r3 S3 => S3.K r2 = 0 ∧ Mw hX0_mayEnd yX0_mayEnd d [vA r2, vA r3, vI x3, vI x4] S3 (oI (fun r4 S4 => R32 r4 ∧ ((r4 = 0) → VX10_pair_65 d c4 (VX10_pair_20 d c4 Q n) Q x0 x1 x2 x3 x4 S4) ∧ (¬ (r4 = 0) → (R32 x2 ∧ R32 x1) ∧ (¬ (x2 = x1) → VX10_pair_65 d c4 (VX10_pair_20 d c4 Q n) Q x0 x1 (x2 + 1) x3 x4 S4) ∧ ((x2 = x1) → Q (.inl (some (vI ((10 * x3) + x4)))) S4)))))))))))
theorem JX10_pair_20 {d : Nat} {c4 : Nat → Int → Int → Int → MS → Prop} {S0 : MS} {Q : Out → MS → Prop} (hc4 : ∀ (x0 : Nat) (x1 : Int) (x2 : Int) (x3 : Int) (S : MS), c4 x0 x1 x2 x3 S → Jw FinM RX10 cX10_pair 5 (some .int) [] yX10_pair (d + 1) S0 S 4 [(0, vA x0), (1, vI x1), (2, vI x2), (3, vI x3)] [] Q) : ∀ (n : Nat) (x0 : Nat) (x1 : Int) (x2 : Int) (x3 : Int) (x4 : Int) (S : MS), VX10_pair_20 d c4 Q n x0 x1 x2 x3 x4 S → Jw FinM RX10 cX10_pair 5 (some .int) [] yX10_pair (d + 1) S0 S 20 [(0, vA x0), (1, vI x1), (2, vI x2), (3, vI x3), (4, vI x4)] [] Q := by
  intro n
  induction n with
  | zero => intro x0 x1 x2 x3 x4 S h; exact h.elim
  | succ n ih =>
    intro x0 x1 x2 x3 x4 S h
    exact j_iload 4 dX10_pair_20 rfl (j_aload_n 0 dX10_pair_22 rfl (j_getR 10 2 f_RX10_24 dX10_pair_23 h (fun b1 h => j_getI 7 7 f_RX10_261 dX10_pair_26 h (fun h => j_icmp_ge (tgt := 71) dX10_pair_29 (by decide) h (fun h => j_iinc 3 (lv2 := [(3, vI (x3 + 1)), (0, vA x0), (1, vI x1), (2, vI x2), (4, vI x4)]) dX10_pair_71 rfl (by decide) rfl (j_goto (tgt := 4) dX10_pair_74 (by decide) (j_sub [1, 2, 3, 0] rfl (hc4 _ _ _ _ _ h)))) (fun h => j_aload_n 0 dX10_pair_32 rfl (j_callV (rest := []) 10 [] k_RX10_229 ⟨w_2_61, p_1_1⟩ ⟨_, _, rfl⟩ (by decide) rfl rfl (Nat.le_of_ble_eq_true rfl) dX10_pair_33 h (kA (fun r2 S2 h => j_aload_n 0 dX10_pair_36 rfl (j_callV (rest := [vA r2]) 10 [] k_RX10_214 ⟨w_2_57, p_1_0⟩ ⟨_, _, rfl⟩ (by decide) rfl rfl (Nat.le_of_ble_eq_true rfl) dX10_pair_37 h (kA (fun r3 S3 h => j_iload_n 3 dX10_pair_40 rfl (j_iload 4 dX10_pair_41 rfl (j_callV (rest := []) 0 [vA r3, vI x3, vI x4] k_RX10_264 ⟨w_3_25, w_3_26⟩ ⟨_, _, rfl⟩ (by decide) rfl rfl (Nat.le_of_ble_eq_true rfl) dX10_pair_43 h (kI (fun r4 S4 h => j_if_eq (tgt := 65) dX10_pair_46 (by decide) h (fun h => JX10_pair_65 hc4 ih _ _ _ _ _ _ h) (fun h => j_iload_n 2 dX10_pair_49 rfl (j_iload_n 1 dX10_pair_50 rfl (j_icmp_ne (tgt := 62) dX10_pair_51 (by decide) h (fun h => j_iinc 2 (lv2 := [(2, vI (x2 + 1)), (0, vA x0), (1, vI x1), (3, vI x3), (4, vI x4)]) dX10_pair_62 rfl (by decide) rfl (j_sub [1, 2, 0, 3, 4] rfl (JX10_pair_65 hc4 ih _ _ _ _ _ _ h))) (fun h => j_bipush dX10_pair_54 rfl (j_iload_n 3 dX10_pair_56 rfl (j_imul dX10_pair_57 (j_iload 4 dX10_pair_58 rfl (j_iadd dX10_pair_60 (j_iret rfl dX10_pair_61 h))))))))))) (fun _ _ h => h.elim))))) (fun _ _ h => h.elim)))) (fun _ _ h => h.elim)))))))
def VX10_pair_4 (d : Nat) (Q : Out → MS → Prop) : Nat → Nat → Int → Int → Int → MS → Prop
  | 0, _, _, _, _, _ => False
  | n + 1, x0, x1, x2, x3, S => S.K x0 = 10 ∧ ∃ b1, S.R x0 2 = some b1 ∧ (S.K b1 = 7 ∧ ((R32 x3 ∧ R32 (S.I b1 7)) ∧ (((S.I b1 7) ≤ x3) → Q (.inl (some (vI ((-1))))) S) ∧ (¬ ((S.I b1 7) ≤ x3) → ∃ m, VX10_pair_20 d (VX10_pair_4 d Q n) Q m x0 x1 x2 x3 (x3 + 1) S)))
theorem JX10_pair_4 {d : Nat} {S0 : MS} {Q : Out → MS → Prop} : ∀ (n : Nat) (x0 : Nat) (x1 : Int) (x2 : Int) (x3 : Int) (S : MS), VX10_pair_4 d Q n x0 x1 x2 x3 S → Jw FinM RX10 cX10_pair 5 (some .int) [] yX10_pair (d + 1) S0 S 4 [(0, vA x0), (1, vI x1), (2, vI x2), (3, vI x3)] [] Q := by
  intro n
  induction n with
  | zero => intro x0 x1 x2 x3 S h; exact h.elim
  | succ n ih =>
    intro x0 x1 x2 x3 S h
    exact j_iload_n 3 dX10_pair_4 rfl (j_aload_n 0 dX10_pair_5 rfl (j_getR 10 2 f_RX10_24 dX10_pair_6 h (fun b1 h => j_getI 7 7 f_RX10_261 dX10_pair_9 h (fun h => j_icmp_ge (tgt := 77) dX10_pair_12 (by decide) h (fun h => j_iconst dX10_pair_77 (j_iret rfl dX10_pair_78 h)) (fun h => j_iload_n 3 dX10_pair_15 rfl (j_iconst dX10_pair_16 (j_iadd dX10_pair_17 (j_istore (lv2 := [(4, vI (x3 + 1)), (0, vA x0), (1, vI x1), (2, vI x2), (3, vI x3)]) dX10_pair_18 (by decide) rfl (Exists.elim h (fun m h => j_sub [1, 2, 3, 4, 0] rfl (JX10_pair_20 ih m _ _ _ _ _ _ h)))))))))))
def VX10_pair_0 (d : Nat) (Q : Out → MS → Prop) (x0 : Nat) (x1 : Int) (S : MS) : Prop :=
  ∃ m, VX10_pair_4 d Q m x0 x1 0 0 S
theorem JX10_pair_0 {d : Nat} {S0 : MS} {Q : Out → MS → Prop} (x0 : Nat) (x1 : Int) (S : MS) (h : VX10_pair_0 d Q x0 x1 S) : Jw FinM RX10 cX10_pair 5 (some .int) [] yX10_pair (d + 1) S0 S 0 [(0, vA x0), (1, vI x1)] [] Q :=
  j_iconst dX10_pair_0 (j_istore_n (lv2 := [(2, vI 0), (0, vA x0), (1, vI x1)]) dX10_pair_1 (by decide) rfl (j_iconst dX10_pair_2 (j_istore_n (lv2 := [(3, vI 0), (2, vI 0), (0, vA x0), (1, vI x1)]) dX10_pair_3 (by decide) rfl (Exists.elim h (fun m h => j_sub [2, 3, 1, 0] rfl (JX10_pair_4 m _ _ _ _ _ h))))))
theorem MX10_pair {d : Nat} {x0 : Nat} {x1 : Int} {S : MS} {Q : Out → MS → Prop} (h : VX10_pair_0 d Q x0 x1 S) : Mw hX10_pair yX10_pair (d + 1) [vA x0, vI x1] S Q := Mw.ofJ (by decide) (Nat.le_of_ble_eq_true rfl) (JX10_pair_0 _ _ S h)
