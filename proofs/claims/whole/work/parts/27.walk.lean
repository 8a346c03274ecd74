theorem dX9_init_0 : decode cX9_init 0 = .ok (.aload_n 0, 1) := by decide +kernel
theorem dX9_init_1 : decode cX9_init 1 = .ok (.invokespecial 3, 3) := by decide +kernel
theorem dX9_init_4 : decode cX9_init 4 = .ok (.aload_n 0, 1) := by decide +kernel
theorem dX9_init_5 : decode cX9_init 5 = .ok (.iconst 0, 1) := by decide +kernel
theorem dX9_init_6 : decode cX9_init 6 = .ok (.putfield 9, 3) := by decide +kernel
theorem dX9_init_9 : decode cX9_init 9 = .ok (.aload_n 0, 1) := by decide +kernel
theorem dX9_init_10 : decode cX9_init 10 = .ok (.iconst 0, 1) := by decide +kernel
theorem dX9_init_11 : decode cX9_init 11 = .ok (.putfield 15, 3) := by decide +kernel
theorem dX9_init_14 : decode cX9_init 14 = .ok (.aload_n 0, 1) := by decide +kernel
theorem dX9_init_15 : decode cX9_init 15 = .ok (.iconst 1, 1) := by decide +kernel
theorem dX9_init_16 : decode cX9_init 16 = .ok (.putfield 18, 3) := by decide +kernel
theorem dX9_init_19 : decode cX9_init 19 = .ok (.return_, 1) := by decide +kernel
def VX9_init_0 (d : Nat) (Q : Out → MS → Prop) (x0 : Nat) (S : MS) : Prop :=
  S.K x0 = 9 ∧ ((S.setI x0 0 0).K x0 = 9 ∧ ((((S.setI x0 0 0).setI x0 1 0).K x0 = 9 ∧ B01 1) ∧ (Q (.inl none) (((S.setI x0 0 0).setI x0 1 0).setI x0 2 1))))
theorem JX9_init_0 {d : Nat} {S0 : MS} {Q : Out → MS → Prop} (x0 : Nat) (S : MS) (h : VX9_init_0 d Q x0 S) : Jw FinM RX9 cX9_init 1 none [] yX9_init (d + 1) S0 S 0 [(0, vA x0)] [] Q :=
  j_aload_n 0 dX9_init_0 rfl (j_objInit w_1_190 dX9_init_1 (Nat.le_of_ble_eq_true rfl) w_1_36 w_objInit (j_aload_n 0 dX9_init_4 rfl (j_iconst dX9_init_5 (j_putI 9 0 f_RX9_9 dX9_init_6 h (fun h => j_aload_n 0 dX9_init_9 rfl (j_iconst dX9_init_10 (j_putI 9 1 f_RX9_15 dX9_init_11 h (fun h => j_aload_n 0 dX9_init_14 rfl (j_iconst dX9_init_15 (j_putZ 9 2 f_RX9_18 dX9_init_16 h (fun h => j_vret rfl dX9_init_19 h)))))))))))
theorem MX9_init {d : Nat} {x0 : Nat} {S : MS} {Q : Out → MS → Prop} (h : VX9_init_0 d Q x0 S) : Mw hX9_init yX9_init (d + 1) [vA x0] S Q := Mw.ofJ (by decide) (Nat.le_of_ble_eq_true rfl) (JX9_init_0 _ S h)
theorem dX9_start_0 : decode cX9_start 0 = .ok (.aload_n 0, 1) := by decide +kernel
theorem dX9_start_1 : decode cX9_start 1 = .ok (.iconst 0, 1) := by decide +kernel
theorem dX9_start_2 : decode cX9_start 2 = .ok (.putfield 9, 3) := by decide +kernel
theorem dX9_start_5 : decode cX9_start 5 = .ok (.aload_n 0, 1) := by decide +kernel
theorem dX9_start_6 : decode cX9_start 6 = .ok (.iconst 0, 1) := by decide +kernel
theorem dX9_start_7 : decode cX9_start 7 = .ok (.putfield 15, 3) := by decide +kernel
theorem dX9_start_10 : decode cX9_start 10 = .ok (.aload_n 0, 1) := by decide +kernel
theorem dX9_start_11 : decode cX9_start 11 = .ok (.iconst 1, 1) := by decide +kernel
theorem dX9_start_12 : decode cX9_start 12 = .ok (.putfield 18, 3) := by decide +kernel
theorem dX9_start_15 : decode cX9_start 15 = .ok (.return_, 1) := by decide +kernel
def VX9_start_0 (d : Nat) (Q : Out → MS → Prop) (x0 : Nat) (S : MS) : Prop :=
  S.K x0 = 9 ∧ ((S.setI x0 0 0).K x0 = 9 ∧ ((((S.setI x0 0 0).setI x0 1 0).K x0 = 9 ∧ B01 1) ∧ (Q (.inl none) (((S.setI x0 0 0).setI x0 1 0).setI x0 2 1))))
theorem JX9_start_0 {d : Nat} {S0 : MS} {Q : Out → MS → Prop} (x0 : Nat) (S : MS) (h : VX9_start_0 d Q x0 S) : Jw FinM RX9 cX9_start 1 none [] yX9_start (d + 1) S0 S 0 [(0, vA x0)] [] Q :=
  j_aload_n 0 dX9_start_0 rfl (j_iconst dX9_start_1 (j_putI 9 0 f_RX9_9 dX9_start_2 h (fun h => j_aload_n 0 dX9_start_5 rfl (j_iconst dX9_start_6 (j_putI 9 1 f_RX9_15 dX9_start_7 h (fun h => j_aload_n 0 dX9_start_10 rfl (j_iconst dX9_start_11 (j_putZ 9 2 f_RX9_18 dX9_start_12 h (fun h => j_vret rfl dX9_start_15 h)))))))))
theorem MX9_start {d : Nat} {x0 : Nat} {S : MS} {Q : Out → MS → Prop} (h : VX9_start_0 d Q x0 S) : Mw hX9_start yX9_start (d + 1) [vA x0] S Q := Mw.ofJ (by decide) (Nat.le_of_ble_eq_true rfl) (JX9_start_0 _ S h)
theorem dX9_go_0 : decode cX9_go 0 = .ok (.aload_n 3, 1) := by decide +kernel
theorem dX9_go_1 : decode cX9_go 1 = .ok (.iload 4, 2) := by decide +kernel
theorem dX9_go_3 : decode cX9_go 3 = .ok (.aaload, 1) := by decide +kernel
theorem dX9_go_4 : decode cX9_go 4 = .ok (.astore 6, 2) := by decide +kernel
theorem dX9_go_6 : decode cX9_go 6 = .ok (.iload 5, 2) := by decide +kernel
theorem dX9_go_8 : decode cX9_go 8 = .ok (.iconst (-1), 1) := by decide +kernel
theorem dX9_go_9 : decode cX9_go 9 = .ok (.if_icmp .eq 18, 3) := by decide +kernel
theorem dX9_go_12 : decode cX9_go 12 = .ok (.aload_n 1, 1) := by decide +kernel
theorem dX9_go_13 : decode cX9_go 13 = .ok (.aload 6, 2) := by decide +kernel
theorem dX9_go_15 : decode cX9_go 15 = .ok (.iload 5, 2) := by decide +kernel
theorem dX9_go_17 : decode cX9_go 17 = .ok (.invokevirtual 22, 3) := by decide +kernel
theorem dX9_go_20 : decode cX9_go 20 = .ok (.ifCond .eq 7, 3) := by decide +kernel
theorem dX9_go_23 : decode cX9_go 23 = .ok (.iconst 1, 1) := by decide +kernel
theorem dX9_go_24 : decode cX9_go 24 = .ok (.goto 4, 3) := by decide +kernel
theorem dX9_go_27 : decode cX9_go 27 = .ok (.iconst 0, 1) := by decide +kernel
theorem dX9_go_28 : decode cX9_go 28 = .ok (.istore 7, 2) := by decide +kernel
theorem dX9_go_30 : decode cX9_go 30 = .ok (.iload 7, 2) := by decide +kernel
theorem dX9_go_32 : decode cX9_go 32 = .ok (.ifCond .eq 7, 3) := by decide +kernel
theorem dX9_go_35 : decode cX9_go 35 = .ok (.iconst (-1), 1) := by decide +kernel
theorem dX9_go_36 : decode cX9_go 36 = .ok (.goto 10, 3) := by decide +kernel
theorem dX9_go_39 : decode cX9_go 39 = .ok (.aload_n 2, 1) := by decide +kernel
theorem dX9_go_40 : decode cX9_go 40 = .ok (.aload_n 1, 1) := by decide +kernel
theorem dX9_go_41 : decode cX9_go 41 = .ok (.aload 6, 2) := by decide +kernel
theorem dX9_go_43 : decode cX9_go 43 = .ok (.invokevirtual 28, 3) := by decide +kernel
theorem dX9_go_46 : decode cX9_go 46 = .ok (.istore 8, 2) := by decide +kernel
theorem dX9_go_48 : decode cX9_go 48 = .ok (.iload 8, 2) := by decide +kernel
theorem dX9_go_50 : decode cX9_go 50 = .ok (.iconst (-1), 1) := by decide +kernel
theorem dX9_go_51 : decode cX9_go 51 = .ok (.if_icmp .eq 12, 3) := by decide +kernel
theorem dX9_go_54 : decode cX9_go 54 = .ok (.iload 4, 2) := by decide +kernel
theorem dX9_go_56 : decode cX9_go 56 = .ok (.iconst 1, 1) := by decide +kernel
theorem dX9_go_57 : decode cX9_go 57 = .ok (.iadd, 1) := by decide +kernel
theorem dX9_go_58 : decode cX9_go 58 = .ok (.aload_n 3, 1) := by decide +kernel
theorem dX9_go_59 : decode cX9_go 59 = .ok (.arraylength, 1) := by decide +kernel
theorem dX9_go_60 : decode cX9_go 60 = .ok (.if_icmp .lt 67, 3) := by decide +kernel
theorem dX9_go_63 : decode cX9_go 63 = .ok (.aload_n 0, 1) := by decide +kernel
theorem dX9_go_64 : decode cX9_go 64 = .ok (.aload_n 0, 1) := by decide +kernel
theorem dX9_go_65 : decode cX9_go 65 = .ok (.getfield 9, 3) := by decide +kernel
theorem dX9_go_68 : decode cX9_go 68 = .ok (.iload 4, 2) := by decide +kernel
theorem dX9_go_70 : decode cX9_go 70 = .ok (.invokestatic 34, 3) := by decide +kernel
theorem dX9_go_73 : decode cX9_go 73 = .ok (.putfield 9, 3) := by decide +kernel
theorem dX9_go_76 : decode cX9_go 76 = .ok (.aload_n 0, 1) := by decide +kernel
theorem dX9_go_77 : decode cX9_go 77 = .ok (.dup, 1) := by decide +kernel
theorem dX9_go_78 : decode cX9_go 78 = .ok (.getfield 15, 3) := by decide +kernel
theorem dX9_go_81 : decode cX9_go 81 = .ok (.iload 4, 2) := by decide +kernel
theorem dX9_go_83 : decode cX9_go 83 = .ok (.aload 6, 2) := by decide +kernel
theorem dX9_go_85 : decode cX9_go 85 = .ok (.getfield 40, 3) := by decide +kernel
theorem dX9_go_88 : decode cX9_go 88 = .ok (.imul, 1) := by decide +kernel
theorem dX9_go_89 : decode cX9_go 89 = .ok (.iadd, 1) := by decide +kernel
theorem dX9_go_90 : decode cX9_go 90 = .ok (.putfield 15, 3) := by decide +kernel
theorem dX9_go_93 : decode cX9_go 93 = .ok (.aload_n 0, 1) := by decide +kernel
theorem dX9_go_94 : decode cX9_go 94 = .ok (.aload_n 0, 1) := by decide +kernel
theorem dX9_go_95 : decode cX9_go 95 = .ok (.getfield 18, 3) := by decide +kernel
theorem dX9_go_98 : decode cX9_go 98 = .ok (.ifCond .eq 24, 3) := by decide +kernel
theorem dX9_go_101 : decode cX9_go 101 = .ok (.aload 6, 2) := by decide +kernel
theorem dX9_go_103 : decode cX9_go 103 = .ok (.getfield 40, 3) := by decide +kernel
theorem dX9_go_106 : decode cX9_go 106 = .ok (.ifCond .eq 12, 3) := by decide +kernel
theorem dX9_go_109 : decode cX9_go 109 = .ok (.aload_n 1, 1) := by decide +kernel
theorem dX9_go_110 : decode cX9_go 110 = .ok (.aload 6, 2) := by decide +kernel
theorem dX9_go_112 : decode cX9_go 112 = .ok (.invokevirtual 45, 3) := by decide +kernel
theorem dX9_go_115 : decode cX9_go 115 = .ok (.ifCond .eq 7, 3) := by decide +kernel
theorem dX9_go_118 : decode cX9_go 118 = .ok (.iconst 1, 1) := by decide +kernel
theorem dX9_go_119 : decode cX9_go 119 = .ok (.goto 4, 3) := by decide +kernel
theorem dX9_go_122 : decode cX9_go 122 = .ok (.iconst 0, 1) := by decide +kernel
theorem dX9_go_123 : decode cX9_go 123 = .ok (.putfield 18, 3) := by decide +kernel
theorem dX9_go_126 : decode cX9_go 126 = .ok (.return_, 1) := by decide +kernel
theorem dX9_go_127 : decode cX9_go 127 = .ok (.iconst 0, 1) := by decide +kernel
theorem dX9_go_128 : decode cX9_go 128 = .ok (.istore 9, 2) := by decide +kernel
theorem dX9_go_130 : decode cX9_go 130 = .ok (.iload 9, 2) := by decide +kernel
theorem dX9_go_132 : decode cX9_go 132 = .ok (.aload_n 2, 1) := by decide +kernel
theorem dX9_go_133 : decode cX9_go 133 = .ok (.getfield 49, 3) := by decide +kernel
theorem dX9_go_136 : decode cX9_go 136 = .ok (.if_icmp .ge 41, 3) := by decide +kernel
theorem dX9_go_139 : decode cX9_go 139 = .ok (.aload_n 3, 1) := by decide +kernel
theorem dX9_go_140 : decode cX9_go 140 = .ok (.iload 4, 2) := by decide +kernel
theorem dX9_go_142 : decode cX9_go 142 = .ok (.iconst 1, 1) := by decide +kernel
theorem dX9_go_143 : decode cX9_go 143 = .ok (.iadd, 1) := by decide +kernel
theorem dX9_go_144 : decode cX9_go 144 = .ok (.aaload, 1) := by decide +kernel
theorem dX9_go_145 : decode cX9_go 145 = .ok (.aload 6, 2) := by decide +kernel
theorem dX9_go_147 : decode cX9_go 147 = .ok (.aload_n 2, 1) := by decide +kernel
theorem dX9_go_148 : decode cX9_go 148 = .ok (.iload 8, 2) := by decide +kernel
theorem dX9_go_150 : decode cX9_go 150 = .ok (.iload 9, 2) := by decide +kernel
theorem dX9_go_152 : decode cX9_go 152 = .ok (.invokevirtual 52, 3) := by decide +kernel
theorem dX9_go_155 : decode cX9_go 155 = .ok (.invokevirtual 56, 3) := by decide +kernel
theorem dX9_go_158 : decode cX9_go 158 = .ok (.aload_n 0, 1) := by decide +kernel
theorem dX9_go_159 : decode cX9_go 159 = .ok (.aload_n 1, 1) := by decide +kernel
theorem dX9_go_160 : decode cX9_go 160 = .ok (.aload_n 2, 1) := by decide +kernel
theorem dX9_go_161 : decode cX9_go 161 = .ok (.aload_n 3, 1) := by decide +kernel
theorem dX9_go_162 : decode cX9_go 162 = .ok (.iload 4, 2) := by decide +kernel
theorem dX9_go_164 : decode cX9_go 164 = .ok (.iconst 1, 1) := by decide +kernel
theorem dX9_go_165 : decode cX9_go 165 = .ok (.iadd, 1) := by decide +kernel
theorem dX9_go_166 : decode cX9_go 166 = .ok (.iload 5, 2) := by decide +kernel
theorem dX9_go_168 : decode cX9_go 168 = .ok (.invokevirtual 60, 3) := by decide +kernel
theorem dX9_go_171 : decode cX9_go 171 = .ok (.iinc 9 1, 3) := by decide +kernel
theorem dX9_go_174 : decode cX9_go 174 = .ok (.goto (-44), 3) := by decide +kernel
theorem dX9_go_177 : decode cX9_go 177 = .ok (.return_, 1) := by decide +kernel
def VX9_go_123 (d : Nat) (Q : Out → MS → Prop) (t0 : Int) (t1 : Nat) (S : MS) : Prop :=
  (S.K t1 = 9 ∧ B01 t0) ∧ (Q (.inl none) (S.setI t1 2 t0))
theorem JX9_go_123 {d : Nat} {S0 : MS} {Q : Out → MS → Prop} (t0 : Int) (t1 : Nat) (S : MS) (h : VX9_go_123 d Q t0 t1 S) : Jw FinM RX9 cX9_go 10 none [] yX9_go (d + 1) S0 S 123 [] [vI t0, vA t1] Q :=
  j_putZ 9 2 f_RX9_18 dX9_go_123 h (fun h => j_vret rfl dX9_go_126 h)
def VX9_go_118 (d : Nat) (Q : Out → MS → Prop) (t0 : Nat) (S : MS) : Prop :=
  VX9_go_123 d Q 1 t0 S
theorem JX9_go_118 {d : Nat} {S0 : MS} {Q : Out → MS → Prop} (t0 : Nat) (S : MS) (h : VX9_go_118 d Q t0 S) : Jw FinM RX9 cX9_go 10 none [] yX9_go (d + 1) S0 S 118 [] [vA t0] Q :=
  j_iconst dX9_go_118 (j_goto (tgt := 123) dX9_go_119 (by decide) (JX9_go_123 _ _ _ h))
def VX9_go_122 (d : Nat) (Q : Out → MS → Prop) (t0 : Nat) (S : MS) : Prop :=
  VX9_go_123 d Q 0 t0 S
theorem JX9_go_122 {d : Nat} {S0 : MS} {Q : Out → MS → Prop} (t0 : Nat) (S : MS) (h : VX9_go_122 d Q t0 S) : Jw FinM RX9 cX9_go 10 none [] yX9_go (d + 1) S0 S 122 [] [vA t0] Q :=
  j_iconst dX9_go_122 (JX9_go_123 _ _ _ h)
def VX9_go_63 (d : Nat) (Q : Out → MS → Prop) (x0 : Nat) (x1 : Nat) (x4 : Int) (x6 : Nat) (S : MS) : Prop :=
  S.K x0 = 9 ∧ ((R32 (S.I x0 0) ∧ R32 x4) ∧ (S.K x0 = 9 ∧ ((S.setI x0 0 (max (S.I x0 0) x4)).K x0 = 9 ∧ ((S.setI x0 0 (max (S.I x0 0) x4)).K x6 = 5 ∧ ((S.setI x0 0 (max (S.I x0 0) x4)).K x0 = 9 ∧ (∀ S1 : MS, S1 = (S.setI x0 0 (max (S.I x0 0) x4)).setI x0 1 (((S.setI x0 0 (max (S.I x0 0) x4)).I x0 1) + (x4 * ((S.setI x0 0 (max (S.I x0 0) x4)).I x6 0))) → S1.K x0 = 9 ∧ (R32 (S1.I x0 2) ∧ (((S1.I x0 2) = 0) → VX9_go_122 d Q x0 S1) ∧ (¬ ((S1.I x0 2) = 0) → S1.K x6 = 5 ∧ (R32 (S1.I x6 0) ∧ (((S1.I x6 0) = 0) → VX9_go_118 d Q x0 S1) ∧ (¬ ((S1.I x6 0) = 0) → S1.K x1 = 0 ∧ Mw hX0_areKnown yX0_areKnown d [vA x1, vA x6] S1 (oI (fun r2 S2 => R32 r2 ∧ ((r2 = 0) → VX9_go_122 d Q x0 S2) ∧ (¬ (r2 = 0) → VX9_go_118 d Q x0 S2)))))))))))))
theorem JX9_go_63 {d : Nat} {S0 : MS} {Q : Out → MS → Prop} (x0 : Nat) (x1 : Nat) (x4 : Int) (x6 : Nat) (S : MS) (h : VX9_go_63 d Q x0 x1 x4 x6 S) : Jw FinM RX9 cX9_go 10 none [] yX9_go (d + 1) S0 S 63 [(0, vA x0), (1, vA x1), (4, vI x4), (6, vA x6)] [] Q :=
  j_aload_n 0 dX9_go_63 rfl (j_aload_n 0 dX9_go_64 rfl (j_getI 9 0 f_RX9_9 dX9_go_65 h (fun h => j_iload 2 dX9_go_68 rfl (j_mmax w_3_200 w_2_67 w_1_16 w_mmax (Nat.le_of_ble_eq_true rfl) dX9_go_70 h (fun h => j_putI 9 0 f_RX9_9 dX9_go_73 h (fun h => j_aload_n 0 dX9_go_76 rfl (j_dup rfl dX9_go_77 (j_getI 9 1 f_RX9_15 dX9_go_78 h (fun h => j_iload 2 dX9_go_81 rfl (j_aload 3 dX9_go_83 rfl (j_getI 5 0 f_RX9_40 dX9_go_85 h (fun h => j_imul dX9_go_88 (j_iadd dX9_go_89 (j_putI 9 1 f_RX9_15 dX9_go_90 h (fun h => j_bind h (fun S1 h => j_aload_n 0 dX9_go_93 rfl (j_aload_n 0 dX9_go_94 rfl (j_getI 9 2 f_RX9_18 dX9_go_95 h (fun h => j_if_eq (tgt := 122) dX9_go_98 (by decide) h (fun h => j_sub [] rfl (JX9_go_122 _ _ h)) (fun h => j_aload 3 dX9_go_101 rfl (j_getI 5 0 f_RX9_40 dX9_go_103 h (fun h => j_if_eq (tgt := 118) dX9_go_106 (by decide) h (fun h => j_sub [] rfl (JX9_go_118 _ _ h)) (fun h => j_aload_n 1 dX9_go_109 rfl (j_aload 3 dX9_go_110 rfl (j_callV (rest := [vA x0]) 0 [vA x6] k_RX9_45 ⟨w_3_63, w_3_64⟩ ⟨_, _, rfl⟩ (by decide) rfl rfl (Nat.le_of_ble_eq_true rfl) dX9_go_112 h (kI (fun r2 S2 h => j_if_eq (tgt := 122) dX9_go_115 (by decide) h (fun h => j_sub [] rfl (JX9_go_122 _ _ h)) (fun h => j_sub [] rfl (JX9_go_118 _ _ h)))) (fun _ _ h => h.elim))))))))))))))))))))))))))
def VX9_go_130 (d : Nat) (Q : Out → MS → Prop) : Nat → Nat → Nat → Nat → Nat → Int → Int → Nat → Int → Int → MS → Prop
  | 0, _, _, _, _, _, _, _, _, _, _ => False
  | n + 1, x0, x1, x2, x3, x4, x5, x6, x8, x9, S => S.K x2 = 2 ∧ ((R32 x9 ∧ R32 (S.I x2 0)) ∧ (((S.I x2 0) ≤ x9) → Q (.inl none) S) ∧ (¬ ((S.I x2 0) ≤ x9) → (S.K x3 = 19 ∧ (17 ≤ 19 ∧ 19 < 21) ∧ 0 ≤ (x4 + 1) ∧ (x4 + 1) < S.N x3) ∧ ∃ b1, S.R x3 ((x4 + 1)).toNat = some b1 ∧ (S.K x2 = 2 ∧ Mw hX2_risingAt yX2_risingAt d [vA x2, vI x8, vI x9] S (oA (fun r2 S2 => S2.K b1 = 5 ∧ Mw hX5_take yX5_take d [vA b1, vA x6, vA r2] S2 (oV (fun S3 => S3.K x0 = 9 ∧ Mw hX9_go yX9_go d [vA x0, vA x1, vA x2, vA x3, vI (x4 + 1), vI x5] S3 (oV (fun S4 => (VX9_go_130 d Q n) x0 x1 x2 x3 x4 x5 x6 x8 (x9 + 1) S4)))))))))
theorem JX9_go_130 {d : Nat} {S0 : MS} {Q : Out → MS → Prop} : ∀ (n : Nat) (x0 : Nat) (x1 : Nat) (x2 : Nat) (x3 : Nat) (x4 : Int) (x5 : Int) (x6 : Nat) (x8 : Int) (x9 : Int) (S : MS), VX9_go_130 d Q n x0 x1 x2 x3 x4 x5 x6 x8 x9 S → Jw FinM RX9 cX9_go 10 none [] yX9_go (d + 1) S0 S 130 [(0, vA x0), (1, vA x1), (2, vA x2), (3, vA x3), (4, vI x4), (5, vI x5), (6, vA x6), (8, vI x8), (9, vI x9)] [] Q := by
  intro n
  induction n with
  | zero => intro x0 x1 x2 x3 x4 x5 x6 x8 x9 S h; exact h.elim
  | succ n ih =>
    intro x0 x1 x2 x3 x4 x5 x6 x8 x9 S h
    exact j_iload 8 dX9_go_130 rfl (j_aload_n 2 dX9_go_132 rfl (j_getI 2 0 f_RX9_49 dX9_go_133 h (fun h => j_icmp_ge (tgt := 177) dX9_go_136 (by decide) h (fun h => j_vret rfl dX9_go_177 h) (fun h => j_aload_n 3 dX9_go_139 rfl (j_iload 4 dX9_go_140 rfl (j_iconst dX9_go_142 (j_iadd dX9_go_143 (j_aald 19 dX9_go_144 h (fun b1 h => j_aload 6 dX9_go_145 rfl (j_aload_n 2 dX9_go_147 rfl (j_iload 7 dX9_go_148 rfl (j_iload 8 dX9_go_150 rfl (j_callV (rest := [vA x6, vA b1]) 2 [vI x8, vI x9] k_RX9_52 ⟨w_2_233, w_2_234⟩ ⟨_, _, rfl⟩ (by decide) rfl rfl (Nat.le_of_ble_eq_true rfl) dX9_go_152 h (kA (fun r2 S2 h => j_callV (rest := []) 5 [vA x6, vA r2] k_RX9_56 ⟨w_3_119, w_3_120⟩ ⟨_, _, rfl⟩ (by decide) rfl rfl (Nat.le_of_ble_eq_true rfl) dX9_go_155 h (kV (fun S3 h => j_aload_n 0 dX9_go_158 rfl (j_aload_n 1 dX9_go_159 rfl (j_aload_n 2 dX9_go_160 rfl (j_aload_n 3 dX9_go_161 rfl (j_iload 4 dX9_go_162 rfl (j_iconst dX9_go_164 (j_iadd dX9_go_165 (j_iload 5 dX9_go_166 rfl (j_callV (rest := []) 9 [vA x1, vA x2, vA x3, vI (x4 + 1), vI x5] k_RX9_60 ⟨w_3_169, p_1_13⟩ ⟨_, _, rfl⟩ (by decide) rfl rfl (Nat.le_of_ble_eq_true rfl) dX9_go_168 h (kV (fun S4 h => j_iinc 8 (lv2 := [(9, vI (x9 + 1)), (0, vA x0), (1, vA x1), (2, vA x2), (3, vA x3), (4, vI x4), (5, vI x5), (6, vA x6), (8, vI x8)]) dX9_go_171 rfl (by decide) rfl (j_goto (tgt := 130) dX9_go_174 (by decide) (j_sub [1, 2, 3, 4, 5, 6, 7, 8, 0] rfl (ih _ _ _ _ _ _ _ _ _ _ h))))) (fun _ _ h => h.elim))))))))))) (fun _ _ h => h.elim))) (fun _ _ h => h.elim))))))))))))))
def VX9_go_46 (d : Nat) (Q : Out → MS → Prop) (x0 : Nat) (x1 : Nat) (x2 : Nat) (x3 : Nat) (x4 : Int) (x5 : Int) (x6 : Nat) (t0 : Int) (S : MS) : Prop :=
  (R32 t0 ∧ R32 ((-1) : Int)) ∧ ((t0 = ((-1) : Int)) → VX9_go_63 d Q x0 x1 x4 x6 S) ∧ (¬ (t0 = ((-1) : Int)) → (12 ≤ S.K x3 ∧ S.K x3 < 21) ∧ ((R32 (x4 + 1) ∧ R32 ((S.N x3 : Int))) ∧ (((x4 + 1) < ((S.N x3 : Int))) → ∃ m, VX9_go_130 d Q m x0 x1 x2 x3 x4 x5 x6 t0 0 S) ∧ (¬ ((x4 + 1) < ((S.N x3 : Int))) → VX9_go_63 d Q x0 x1 x4 x6 S)))
theorem JX9_go_46 {d : Nat} {S0 : MS} {Q : Out → MS → Prop} (x0 : Nat) (x1 : Nat) (x2 : Nat) (x3 : Nat) (x4 : Int) (x5 : Int) (x6 : Nat) (t0 : Int) (S : MS) (h : VX9_go_46 d Q x0 x1 x2 x3 x4 x5 x6 t0 S) : Jw FinM RX9 cX9_go 10 none [] yX9_go (d + 1) S0 S 46 [(0, vA x0), (1, vA x1), (2, vA x2), (3, vA x3), (4, vI x4), (5, vI x5), (6, vA x6)] [vI t0] Q :=
  j_istore (lv2 := [(8, vI t0), (0, vA x0), (1, vA x1), (2, vA x2), (3, vA x3), (4, vI x4), (5, vI x5), (6, vA x6)]) dX9_go_46 (by decide) rfl (j_iload 0 dX9_go_48 rfl (j_iconst dX9_go_50 (j_icmp_eq (tgt := 63) dX9_go_51 (by decide) h (fun h => j_sub [1, 2, 5, 7] rfl (JX9_go_63 _ _ _ _ _ h)) (fun h => j_iload 5 dX9_go_54 rfl (j_iconst dX9_go_56 (j_iadd dX9_go_57 (j_aload_n 4 dX9_go_58 rfl (j_alen dX9_go_59 h (fun h => j_icmp_lt (tgt := 127) dX9_go_60 (by decide) h (fun h => j_iconst dX9_go_127 (j_istore (lv2 := [(9, vI 0), (8, vI t0), (0, vA x0), (1, vA x1), (2, vA x2), (3, vA x3), (4, vI x4), (5, vI x5), (6, vA x6)]) dX9_go_128 (by decide) rfl (Exists.elim h (fun m h => j_sub [2, 3, 4, 5, 6, 7, 8, 1, 0] rfl (JX9_go_130 m _ _ _ _ _ _ _ _ _ _ h))))) (fun h => j_sub [1, 2, 5, 7] rfl (JX9_go_63 _ _ _ _ _ h)))))))))))
def VX9_go_28 (d : Nat) (Q : Out → MS → Prop) (x0 : Nat) (x1 : Nat) (x2 : Nat) (x3 : Nat) (x4 : Int) (x5 : Int) (x6 : Nat) (t0 : Int) (S : MS) : Prop :=
  R32 t0 ∧ ((t0 = 0) → S.K x2 = 2 ∧ Mw hX2_parting yX2_parting d [vA x2, vA x1, vA x6] S (oI (fun r1 S1 => VX9_go_46 d Q x0 x1 x2 x3 x4 x5 x6 r1 S1))) ∧ (¬ (t0 = 0) → VX9_go_46 d Q x0 x1 x2 x3 x4 x5 x6 ((-1)) S)
theorem JX9_go_28 {d : Nat} {S0 : MS} {Q : Out → MS → Prop} (x0 : Nat) (x1 : Nat) (x2 : Nat) (x3 : Nat) (x4 : Int) (x5 : Int) (x6 : Nat) (t0 : Int) (S : MS) (h : VX9_go_28 d Q x0 x1 x2 x3 x4 x5 x6 t0 S) : Jw FinM RX9 cX9_go 10 none [] yX9_go (d + 1) S0 S 28 [(0, vA x0), (1, vA x1), (2, vA x2), (3, vA x3), (4, vI x4), (5, vI x5), (6, vA x6)] [vI t0] Q :=
  j_istore (lv2 := [(7, vI t0), (0, vA x0), (1, vA x1), (2, vA x2), (3, vA x3), (4, vI x4), (5, vI x5), (6, vA x6)]) dX9_go_28 (by decide) rfl (j_iload 0 dX9_go_30 rfl (j_if_eq (tgt := 39) dX9_go_32 (by decide) h (fun h => j_aload_n 3 dX9_go_39 rfl (j_aload_n 2 dX9_go_40 rfl (j_aload 7 dX9_go_41 rfl (j_callV (rest := []) 2 [vA x1, vA x6] k_RX9_28 ⟨w_3_182, w_3_183⟩ ⟨_, _, rfl⟩ (by decide) rfl rfl (Nat.le_of_ble_eq_true rfl) dX9_go_43 h (kI (fun r1 S1 h => j_sub [1, 2, 3, 4, 5, 6, 7] rfl (JX9_go_46 _ _ _ _ _ _ _ _ _ h))) (fun _ _ h => h.elim))))) (fun h => j_iconst dX9_go_35 (j_goto (tgt := 46) dX9_go_36 (by decide) (j_sub [1, 2, 3, 4, 5, 6, 7] rfl (JX9_go_46 _ _ _ _ _ _ _ _ _ h))))))
def VX9_go_27 (d : Nat) (Q : Out → MS → Prop) (x0 : Nat) (x1 : Nat) (x2 : Nat) (x3 : Nat) (x4 : Int) (x5 : Int) (x6 : Nat) (S : MS) : Prop :=
  VX9_go_28 d Q x0 x1 x2 x3 x4 x5 x6 0 S
theorem JX9_go_27 {d : Nat} {S0 : MS} {Q : Out → MS → Prop} (x0 : Nat) (x1 : Nat) (x2 : Nat) (x3 : Nat) (x4 : Int) (x5 : Int) (x6 : Nat) (S : MS) (h : VX9_go_27 d Q x0 x1 x2 x3 x4 x5 x6 S) : Jw FinM RX9 cX9_go 10 none [] yX9_go (d + 1) S0 S 27 [(0, vA x0), (1, vA x1), (2, vA x2), (3, vA x3), (4, vI x4), (5, vI x5), (6, vA x6)] [] Q :=
  j_iconst dX9_go_27 (JX9_go_28 _ _ _ _ _ _ _ _ _ h)
def VX9_go_0 (d : Nat) (Q : Out → MS → Prop) (x0 : Nat) (x1 : Nat) (x2 : Nat) (x3 : Nat) (x4 : Int) (x5 : Int) (S : MS) : Prop :=
  (S.K x3 = 19 ∧ (17 ≤ 19 ∧ 19 < 21) ∧ 0 ≤ x4 ∧ x4 < S.N x3) ∧ ∃ b1, S.R x3 (x4).toNat = some b1 ∧ ((R32 x5 ∧ R32 ((-1) : Int)) ∧ ((x5 = ((-1) : Int)) → VX9_go_27 d Q x0 x1 x2 x3 x4 x5 b1 S) ∧ (¬ (x5 = ((-1) : Int)) → S.K x1 = 0 ∧ Mw hX0_isPlaced yX0_isPlaced d [vA x1, vA b1, vI x5] S (oI (fun r2 S2 => R32 r2 ∧ ((r2 = 0) → VX9_go_27 d Q x0 x1 x2 x3 x4 x5 b1 S2) ∧ (¬ (r2 = 0) → VX9_go_28 d Q x0 x1 x2 x3 x4 x5 b1 1 S2)))))
theorem JX9_go_0 {d : Nat} {S0 : MS} {Q : Out → MS → Prop} (x0 : Nat) (x1 : Nat) (x2 : Nat) (x3 : Nat) (x4 : Int) (x5 : Int) (S : MS) (h : VX9_go_0 d Q x0 x1 x2 x3 x4 x5 S) : Jw FinM RX9 cX9_go 10 none [] yX9_go (d + 1) S0 S 0 [(0, vA x0), (1, vA x1), (2, vA x2), (3, vA x3), (4, vI x4), (5, vI x5)] [] Q :=
  j_aload_n 3 dX9_go_0 rfl (j_iload 4 dX9_go_1 rfl (j_aald 19 dX9_go_3 h (fun b1 h => j_astore (lv2 := [(6, vA b1), (0, vA x0), (1, vA x1), (2, vA x2), (3, vA x3), (4, vI x4), (5, vI x5)]) dX9_go_4 (by decide) rfl (j_iload 6 dX9_go_6 rfl (j_iconst dX9_go_8 (j_icmp_eq (tgt := 27) dX9_go_9 (by decide) h (fun h => j_sub [1, 2, 3, 4, 5, 6, 0] rfl (JX9_go_27 _ _ _ _ _ _ _ _ h)) (fun h => j_aload_n 2 dX9_go_12 rfl (j_aload 0 dX9_go_13 rfl (j_iload 6 dX9_go_15 rfl (j_callV (rest := []) 0 [vA b1, vI x5] k_RX9_22 ⟨w_3_172, w_3_173⟩ ⟨_, _, rfl⟩ (by decide) rfl rfl (Nat.le_of_ble_eq_true rfl) dX9_go_17 h (kI (fun r2 S2 h => j_if_eq (tgt := 27) dX9_go_20 (by decide) h (fun h => j_sub [1, 2, 3, 4, 5, 6, 0] rfl (JX9_go_27 _ _ _ _ _ _ _ _ h)) (fun h => j_iconst dX9_go_23 (j_goto (tgt := 28) dX9_go_24 (by decide) (j_sub [1, 2, 3, 4, 5, 6, 0] rfl (JX9_go_28 _ _ _ _ _ _ _ _ _ h)))))) (fun _ _ h => h.elim)))))))))))
theorem MX9_go {d : Nat} {x0 : Nat} {x1 : Nat} {x2 : Nat} {x3 : Nat} {x4 : Int} {x5 : Int} {S : MS} {Q : Out → MS → Prop} (h : VX9_go_0 d Q x0 x1 x2 x3 x4 x5 S) : Mw hX9_go yX9_go (d + 1) [vA x0, vA x1, vA x2, vA x3, vI x4, vI x5] S Q := Mw.ofJ (by decide) (Nat.le_of_ble_eq_true rfl) (JX9_go_0 _ _ _ _ _ _ S h)
