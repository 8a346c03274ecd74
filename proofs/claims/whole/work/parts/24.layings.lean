theorem dX2_init_0 : decode cX2_init 0 = .ok (.aload_n 0, 1) := by decide +kernel
theorem dX2_init_1 : decode cX2_init 1 = .ok (.invokespecial 3, 3) := by decide +kernel
theorem dX2_init_4 : decode cX2_init 4 = .ok (.aload_n 0, 1) := by decide +kernel
theorem dX2_init_5 : decode cX2_init 5 = .ok (.iconst 0, 1) := by decide +kernel
theorem dX2_init_6 : decode cX2_init 6 = .ok (.putfield 9, 3) := by decide +kernel
theorem dX2_init_9 : decode cX2_init 9 = .ok (.aload_n 0, 1) := by decide +kernel
theorem dX2_init_10 : decode cX2_init 10 = .ok (.iconst 0, 1) := by decide +kernel
theorem dX2_init_11 : decode cX2_init 11 = .ok (.putfield 15, 3) := by decide +kernel
theorem dX2_init_14 : decode cX2_init 14 = .ok (.aload_n 0, 1) := by decide +kernel
theorem dX2_init_15 : decode cX2_init 15 = .ok (.iload_n 1, 1) := by decide +kernel
theorem dX2_init_16 : decode cX2_init 16 = .ok (.putfield 18, 3) := by decide +kernel
theorem dX2_init_19 : decode cX2_init 19 = .ok (.aload_n 0, 1) := by decide +kernel
theorem dX2_init_20 : decode cX2_init 20 = .ok (.iload_n 2, 1) := by decide +kernel
theorem dX2_init_21 : decode cX2_init 21 = .ok (.putfield 21, 3) := by decide +kernel
theorem dX2_init_24 : decode cX2_init 24 = .ok (.aload_n 0, 1) := by decide +kernel
theorem dX2_init_25 : decode cX2_init 25 = .ok (.iload_n 2, 1) := by decide +kernel
theorem dX2_init_26 : decode cX2_init 26 = .ok (.invokestatic 24, 3) := by decide +kernel
theorem dX2_init_29 : decode cX2_init 29 = .ok (.putfield 28, 3) := by decide +kernel
theorem dX2_init_32 : decode cX2_init 32 = .ok (.iconst 0, 1) := by decide +kernel
theorem dX2_init_33 : decode cX2_init 33 = .ok (.istore 4, 2) := by decide +kernel
theorem dX2_init_35 : decode cX2_init 35 = .ok (.iconst 0, 1) := by decide +kernel
theorem dX2_init_36 : decode cX2_init 36 = .ok (.istore 5, 2) := by decide +kernel
theorem dX2_init_38 : decode cX2_init 38 = .ok (.iload 5, 2) := by decide +kernel
theorem dX2_init_40 : decode cX2_init 40 = .ok (.iconst 1, 1) := by decide +kernel
theorem dX2_init_41 : decode cX2_init 41 = .ok (.iload_n 1, 1) := by decide +kernel
theorem dX2_init_42 : decode cX2_init 42 = .ok (.ishl, 1) := by decide +kernel
theorem dX2_init_43 : decode cX2_init 43 = .ok (.if_icmp .ge 31, 3) := by decide +kernel
theorem dX2_init_46 : decode cX2_init 46 = .ok (.iload 4, 2) := by decide +kernel
theorem dX2_init_48 : decode cX2_init 48 = .ok (.iload 5, 2) := by decide +kernel
theorem dX2_init_50 : decode cX2_init 50 = .ok (.invokestatic 31, 3) := by decide +kernel
theorem dX2_init_53 : decode cX2_init 53 = .ok (.aload_n 0, 1) := by decide +kernel
theorem dX2_init_54 : decode cX2_init 54 = .ok (.getfield 28, 3) := by decide +kernel
theorem dX2_init_57 : decode cX2_init 57 = .ok (.if_icmp .ne 7, 3) := by decide +kernel
theorem dX2_init_60 : decode cX2_init 60 = .ok (.iconst 1, 1) := by decide +kernel
theorem dX2_init_61 : decode cX2_init 61 = .ok (.goto 4, 3) := by decide +kernel
theorem dX2_init_64 : decode cX2_init 64 = .ok (.iconst 0, 1) := by decide +kernel
theorem dX2_init_65 : decode cX2_init 65 = .ok (.iadd, 1) := by decide +kernel
theorem dX2_init_66 : decode cX2_init 66 = .ok (.istore 4, 2) := by decide +kernel
theorem dX2_init_68 : decode cX2_init 68 = .ok (.iinc 5 1, 3) := by decide +kernel
theorem dX2_init_71 : decode cX2_init 71 = .ok (.goto (-33), 3) := by decide +kernel
theorem dX2_init_74 : decode cX2_init 74 = .ok (.aload_n 0, 1) := by decide +kernel
theorem dX2_init_75 : decode cX2_init 75 = .ok (.iload 4, 2) := by decide +kernel
theorem dX2_init_77 : decode cX2_init 77 = .ok (.newarray .int, 2) := by decide +kernel
theorem dX2_init_79 : decode cX2_init 79 = .ok (.putfield 36, 3) := by decide +kernel
theorem dX2_init_82 : decode cX2_init 82 = .ok (.aload_n 0, 1) := by decide +kernel
theorem dX2_init_83 : decode cX2_init 83 = .ok (.iconst 1, 1) := by decide +kernel
theorem dX2_init_84 : decode cX2_init 84 = .ok (.iload_n 1, 1) := by decide +kernel
theorem dX2_init_85 : decode cX2_init 85 = .ok (.ishl, 1) := by decide +kernel
theorem dX2_init_86 : decode cX2_init 86 = .ok (.newarray .int, 2) := by decide +kernel
theorem dX2_init_88 : decode cX2_init 88 = .ok (.putfield 40, 3) := by decide +kernel
theorem dX2_init_91 : decode cX2_init 91 = .ok (.aload_n 0, 1) := by decide +kernel
theorem dX2_init_92 : decode cX2_init 92 = .ok (.iload 4, 2) := by decide +kernel
theorem dX2_init_94 : decode cX2_init 94 = .ok (.aload_n 0, 1) := by decide +kernel
theorem dX2_init_95 : decode cX2_init 95 = .ok (.getfield 28, 3) := by decide +kernel
theorem dX2_init_98 : decode cX2_init 98 = .ok (.imul, 1) := by decide +kernel
theorem dX2_init_99 : decode cX2_init 99 = .ok (.iload_n 3, 1) := by decide +kernel
theorem dX2_init_100 : decode cX2_init 100 = .ok (.multianewarray 43 2, 4) := by decide +kernel
theorem dX2_init_104 : decode cX2_init 104 = .ok (.putfield 45, 3) := by decide +kernel
theorem dX2_init_107 : decode cX2_init 107 = .ok (.aload_n 0, 1) := by decide +kernel
theorem dX2_init_108 : decode cX2_init 108 = .ok (.iload_n 3, 1) := by decide +kernel
theorem dX2_init_109 : decode cX2_init 109 = .ok (.newarray .long, 2) := by decide +kernel
theorem dX2_init_111 : decode cX2_init 111 = .ok (.putfield 48, 3) := by decide +kernel
theorem dX2_init_114 : decode cX2_init 114 = .ok (.return_, 1) := by decide +kernel
def VX2_init_65 (d : Nat) (c38 : Nat → Int → Int → Int → Int → MS → Prop) (Q : Out → MS → Prop) (x0 : Nat) (x1 : Int) (x3 : Int) (x5 : Int) (t0 : Int) (t1 : Int) (S : MS) : Prop :=
  c38 x0 x1 x3 (t1 + t0) (x5 + 1) S
theorem JX2_init_65 {d : Nat} {c38 : Nat → Int → Int → Int → Int → MS → Prop} {S0 : MS} {Q : Out → MS → Prop} (hc38 : ∀ (x0 : Nat) (x1 : Int) (x3 : Int) (x4 : Int) (x5 : Int) (S : MS), c38 x0 x1 x3 x4 x5 S → Jw FinM RX2 cX2_init 6 none [] yX2_init (d + 1) S0 S 38 [(0, vA x0), (1, vI x1), (3, vI x3), (4, vI x4), (5, vI x5)] [] Q) (x0 : Nat) (x1 : Int) (x3 : Int) (x5 : Int) (t0 : Int) (t1 : Int) (S : MS) (h : VX2_init_65 d c38 Q x0 x1 x3 x5 t0 t1 S) : Jw FinM RX2 cX2_init 6 none [] yX2_init (d + 1) S0 S 65 [(0, vA x0), (1, vI x1), (3, vI x3), (5, vI x5)] [vI t0, vI t1] Q :=
  j_iadd dX2_init_65 (j_istore (lv2 := [(4, vI (t1 + t0)), (0, vA x0), (1, vI x1), (3, vI x3), (5, vI x5)]) dX2_init_66 (by decide) rfl (j_iinc 4 (lv2 := [(5, vI (x5 + 1)), (4, vI (t1 + t0)), (0, vA x0), (1, vI x1), (3, vI x3)]) dX2_init_68 rfl (by decide) rfl (j_goto (tgt := 38) dX2_init_71 (by decide) (j_sub [2, 3, 4, 1, 0] rfl (hc38 _ _ _ _ _ _ h)))))
def VX2_init_38 (d : Nat) (Q : Out → MS → Prop) : Nat → Nat → Int → Int → Int → Int → MS → Prop
  | 0, _, _, _, _, _, _ => False
  | n + 1, x0, x1, x3, x4, x5, S => (R32 x5 ∧ R32 (iShl 1 x1)) ∧ (((iShl 1 x1) ≤ x5) → (0 ≤ x4 ∧ x4 < 1000000) ∧ ((S.mk 13 (x4).toNat).K x0 = 2 ∧ ((0 ≤ (iShl 1 x1) ∧ (iShl 1 x1) < 1000000) ∧ ((((S.mk 13 (x4).toNat).setR x0 1 (some S.nx)).mk 13 ((iShl 1 x1)).toNat).K x0 = 2 ∧ (∀ S1 : MS, S1 = (((S.mk 13 (x4).toNat).setR x0 1 (some S.nx)).mk 13 ((iShl 1 x1)).toNat).setR x0 6 (some (((S.mk 13 (x4).toNat).setR x0 1 (some S.nx)).nx)) → S1.K x0 = 2 ∧ (((0 ≤ (x4 * (S1.I x0 0)) ∧ (x4 * (S1.I x0 0)) < 100000) ∧ 0 ≤ x3 ∧ x3 < 100000) ∧ ((S1.mk2 ((x4 * (S1.I x0 0))).toNat (x3).toNat).K x0 = 2 ∧ ((0 ≤ x3 ∧ x3 < 1000000) ∧ ((((S1.mk2 ((x4 * (S1.I x0 0))).toNat (x3).toNat).setR x0 7 (some S1.nx)).mk 14 (x3).toNat).K x0 = 2 ∧ (∀ S2 : MS, S2 = (((S1.mk2 ((x4 * (S1.I x0 0))).toNat (x3).toNat).setR x0 7 (some S1.nx)).mk 14 (x3).toNat).setR x0 8 (some (((S1.mk2 ((x4 * (S1.I x0 0))).toNat (x3).toNat).setR x0 7 (some S1.nx)).nx)) → Q (.inl none) S2)))))))))) ∧ (¬ ((iShl 1 x1) ≤ x5) → Mw hJ6_bitCount_0f7a4 yJ6_bitCount_0f7a4 d [vI x5] S (oI (fun r3 S3 => S3.K x0 = 2 ∧ ((R32 r3 ∧ R32 (S3.I x0 0)) ∧ (¬ (r3 = (S3.I x0 0)) → VX2_init_65 d (VX2_init_38 d Q n) Q x0 x1 x3 x5 0 x4 S3) ∧ ((r3 = (S3.I x0 0)) → VX2_init_65 d (VX2_init_38 d Q n) Q x0 x1 x3 x5 1 x4 S3)))))
theorem JX2_init_38 {d : Nat} {S0 : MS} {Q : Out → MS → Prop} : ∀ (n : Nat) (x0 : Nat) (x1 : Int) (x3 : Int) (x4 : Int) (x5 : Int) (S : MS), VX2_init_38 d Q n x0 x1 x3 x4 x5 S → Jw FinM RX2 cX2_init 6 none [] yX2_init (d + 1) S0 S 38 [(0, vA x0), (1, vI x1), (3, vI x3), (4, vI x4), (5, vI x5)] [] Q := by
  intro n
  induction n with
  | zero => intro x0 x1 x3 x4 x5 S h; exact h.elim
  | succ n ih =>
    intro x0 x1 x3 x4 x5 S h
    exact j_iload 4 dX2_init_38 rfl (j_iconst dX2_init_40 (j_iload_n 1 dX2_init_41 rfl (j_ishl dX2_init_42 (j_icmp_ge (tgt := 74) dX2_init_43 (by decide) h (fun h => j_aload_n 0 dX2_init_74 rfl (j_iload 3 dX2_init_75 rfl (j_newb 13 dX2_init_77 rfl (by decide) w_1_58 h (fun h => j_putFR 2 1 f_RX2_36 (by intro q h; cases h; rfl) rfl (fun b => ⟨rfl, rfl⟩) dX2_init_79 h (fun h => j_aload_n 0 dX2_init_82 rfl (j_iconst dX2_init_83 (j_iload_n 1 dX2_init_84 rfl (j_ishl dX2_init_85 (j_newb 13 dX2_init_86 rfl (by decide) w_1_58 h (fun h => j_putFR 2 6 f_RX2_40 (by intro q h; cases h; rfl) rfl (fun b => ⟨rfl, rfl⟩) dX2_init_88 h (fun h => j_bind h (fun S1 h => j_aload_n 0 dX2_init_91 rfl (j_iload 3 dX2_init_92 rfl (j_aload_n 0 dX2_init_94 rfl (j_getI 2 0 f_RX2_28 dX2_init_95 h (fun h => j_imul dX2_init_98 (j_iload_n 2 dX2_init_99 rfl (j_mna w_2_91 w_1_158 dX2_init_100 h (fun h => j_putFR 2 7 f_RX2_45 (by intro q h; cases h; rfl) rfl (fun b => ⟨rfl, rfl⟩) dX2_init_104 h (fun h => j_aload_n 0 dX2_init_107 rfl (j_iload_n 2 dX2_init_108 rfl (j_newb 14 dX2_init_109 rfl (by decide) w_1_158 h (fun h => j_putFR 2 8 f_RX2_48 (by intro q h; cases h; rfl) rfl (fun b => ⟨rfl, rfl⟩) dX2_init_111 h (fun h => j_bind h (fun S2 h => j_vret rfl dX2_init_114 h))))))))))))))))))))))))) (fun h => j_iload 3 dX2_init_46 rfl (j_iload 4 dX2_init_48 rfl (j_callS (rest := [vI x4]) [vI x5] k_RX2_31 w_2_86 rfl rfl (Nat.le_of_ble_eq_true rfl) dX2_init_50 h (kI (fun r3 S3 h => j_aload_n 0 dX2_init_53 rfl (j_getI 2 0 f_RX2_28 dX2_init_54 h (fun h => j_icmp_ne (tgt := 64) dX2_init_57 (by decide) h (fun h => j_iconst dX2_init_64 (j_sub [0, 1, 2, 4] rfl (JX2_init_65 ih _ _ _ _ _ _ _ h))) (fun h => j_iconst dX2_init_60 (j_goto (tgt := 65) dX2_init_61 (by decide) (j_sub [0, 1, 2, 4] rfl (JX2_init_65 ih _ _ _ _ _ _ _ h)))))))) (fun _ _ h => h.elim))))))))
def VX2_init_0 (d : Nat) (Q : Out → MS → Prop) (x0 : Nat) (x1 : Int) (x2 : Int) (x3 : Int) (S : MS) : Prop :=
  S.K x0 = 2 ∧ ((S.setI x0 2 0).K x0 = 2 ∧ (((S.setI x0 2 0).setI x0 3 0).K x0 = 2 ∧ ((((S.setI x0 2 0).setI x0 3 0).setI x0 5 x1).K x0 = 2 ∧ (Mw hX10_pansOf yX10_pansOf d [vI x2] ((((S.setI x0 2 0).setI x0 3 0).setI x0 5 x1).setI x0 4 x2) (oI (fun r1 S1 => S1.K x0 = 2 ∧ (∃ m, VX2_init_38 d Q m x0 x1 x3 0 0 (S1.setI x0 0 r1))))))))
theorem JX2_init_0 {d : Nat} {S0 : MS} {Q : Out → MS → Prop} (x0 : Nat) (x1 : Int) (x2 : Int) (x3 : Int) (S : MS) (h : VX2_init_0 d Q x0 x1 x2 x3 S) : Jw FinM RX2 cX2_init 6 none [] yX2_init (d + 1) S0 S 0 [(0, vA x0), (1, vI x1), (2, vI x2), (3, vI x3)] [] Q :=
  j_aload_n 0 dX2_init_0 rfl (j_objInit w_2_81 dX2_init_1 (Nat.le_of_ble_eq_true rfl) w_1_36 w_objInit (j_aload_n 0 dX2_init_4 rfl (j_iconst dX2_init_5 (j_putI 2 2 f_RX2_9 dX2_init_6 h (fun h => j_aload_n 0 dX2_init_9 rfl (j_iconst dX2_init_10 (j_putI 2 3 f_RX2_15 dX2_init_11 h (fun h => j_aload_n 0 dX2_init_14 rfl (j_iload_n 1 dX2_init_15 rfl (j_putFI 2 5 f_RX2_18 (by intro q h; cases h; rfl) rfl dX2_init_16 h (fun h => j_aload_n 0 dX2_init_19 rfl (j_iload_n 2 dX2_init_20 rfl (j_putFI 2 4 f_RX2_21 (by intro q h; cases h; rfl) rfl dX2_init_21 h (fun h => j_aload_n 0 dX2_init_24 rfl (j_iload_n 2 dX2_init_25 rfl (j_callSN (rest := [vA x0]) [vI x2] k_RX2_24 w_2_83 rfl rfl (Nat.le_of_ble_eq_true rfl) dX2_init_26 h (kI (fun r1 S1 h => j_putFI 2 0 f_RX2_28 (by intro q h; cases h; rfl) rfl dX2_init_29 h (fun h => j_iconst dX2_init_32 (j_istore (lv2 := [(4, vI 0), (0, vA x0), (1, vI x1), (2, vI x2), (3, vI x3)]) dX2_init_33 (by decide) rfl (j_iconst dX2_init_35 (j_istore (lv2 := [(5, vI 0), (4, vI 0), (0, vA x0), (1, vI x1), (2, vI x2), (3, vI x3)]) dX2_init_36 (by decide) rfl (Exists.elim h (fun m h => j_sub [2, 3, 5, 1, 0] rfl (JX2_init_38 m _ _ _ _ _ _ h)))))))))))))))))))))))))
theorem MX2_init {d : Nat} {x0 : Nat} {x1 : Int} {x2 : Int} {x3 : Int} {S : MS} {Q : Out → MS → Prop} (h : VX2_init_0 d Q x0 x1 x2 x3 S) : Mw hX2_init yX2_init (d + 1) [vA x0, vI x1, vI x2, vI x3] S Q := Mw.ofJ (by decide) (Nat.le_of_ble_eq_true rfl) (JX2_init_0 _ _ _ _ S h)
theorem dX2_fillSets_0 : decode cX2_fillSets 0 = .ok (.aload_n 0, 1) := by decide +kernel
theorem dX2_fillSets_1 : decode cX2_fillSets 1 = .ok (.getfield 40, 3) := by decide +kernel
theorem dX2_fillSets_4 : decode cX2_fillSets 4 = .ok (.iconst (-1), 1) := by decide +kernel
theorem dX2_fillSets_5 : decode cX2_fillSets 5 = .ok (.invokestatic 52, 3) := by decide +kernel
theorem dX2_fillSets_8 : decode cX2_fillSets 8 = .ok (.iconst 0, 1) := by decide +kernel
theorem dX2_fillSets_9 : decode cX2_fillSets 9 = .ok (.istore_n 1, 1) := by decide +kernel
theorem dX2_fillSets_10 : decode cX2_fillSets 10 = .ok (.iconst 1, 1) := by decide +kernel
theorem dX2_fillSets_11 : decode cX2_fillSets 11 = .ok (.aload_n 0, 1) := by decide +kernel
theorem dX2_fillSets_12 : decode cX2_fillSets 12 = .ok (.getfield 18, 3) := by decide +kernel
theorem dX2_fillSets_15 : decode cX2_fillSets 15 = .ok (.ishl, 1) := by decide +kernel
theorem dX2_fillSets_16 : decode cX2_fillSets 16 = .ok (.iconst 1, 1) := by decide +kernel
theorem dX2_fillSets_17 : decode cX2_fillSets 17 = .ok (.isub, 1) := by decide +kernel
theorem dX2_fillSets_18 : decode cX2_fillSets 18 = .ok (.istore_n 2, 1) := by decide +kernel
theorem dX2_fillSets_19 : decode cX2_fillSets 19 = .ok (.iload_n 2, 1) := by decide +kernel
theorem dX2_fillSets_20 : decode cX2_fillSets 20 = .ok (.ifCond .lt 52, 3) := by decide +kernel
theorem dX2_fillSets_23 : decode cX2_fillSets 23 = .ok (.iload_n 1, 1) := by decide +kernel
theorem dX2_fillSets_24 : decode cX2_fillSets 24 = .ok (.aload_n 0, 1) := by decide +kernel
theorem dX2_fillSets_25 : decode cX2_fillSets 25 = .ok (.getfield 36, 3) := by decide +kernel
theorem dX2_fillSets_28 : decode cX2_fillSets 28 = .ok (.arraylength, 1) := by decide +kernel
theorem dX2_fillSets_29 : decode cX2_fillSets 29 = .ok (.if_icmp .ge 43, 3) := by decide +kernel
theorem dX2_fillSets_32 : decode cX2_fillSets 32 = .ok (.iload_n 2, 1) := by decide +kernel
theorem dX2_fillSets_33 : decode cX2_fillSets 33 = .ok (.invokestatic 31, 3) := by decide +kernel
theorem dX2_fillSets_36 : decode cX2_fillSets 36 = .ok (.aload_n 0, 1) := by decide +kernel
theorem dX2_fillSets_37 : decode cX2_fillSets 37 = .ok (.getfield 28, 3) := by decide +kernel
theorem dX2_fillSets_40 : decode cX2_fillSets 40 = .ok (.if_icmp .ne 26, 3) := by decide +kernel
theorem dX2_fillSets_43 : decode cX2_fillSets 43 = .ok (.aload_n 0, 1) := by decide +kernel
theorem dX2_fillSets_44 : decode cX2_fillSets 44 = .ok (.iload_n 2, 1) := by decide +kernel
theorem dX2_fillSets_45 : decode cX2_fillSets 45 = .ok (.invokevirtual 58, 3) := by decide +kernel
theorem dX2_fillSets_48 : decode cX2_fillSets 48 = .ok (.istore_n 3, 1) := by decide +kernel
theorem dX2_fillSets_49 : decode cX2_fillSets 49 = .ok (.aload_n 0, 1) := by decide +kernel
theorem dX2_fillSets_50 : decode cX2_fillSets 50 = .ok (.getfield 36, 3) := by decide +kernel
theorem dX2_fillSets_53 : decode cX2_fillSets 53 = .ok (.iload_n 1, 1) := by decide +kernel
theorem dX2_fillSets_54 : decode cX2_fillSets 54 = .ok (.iload_n 3, 1) := by decide +kernel
theorem dX2_fillSets_55 : decode cX2_fillSets 55 = .ok (.iastore, 1) := by decide +kernel
theorem dX2_fillSets_56 : decode cX2_fillSets 56 = .ok (.aload_n 0, 1) := by decide +kernel
theorem dX2_fillSets_57 : decode cX2_fillSets 57 = .ok (.getfield 40, 3) := by decide +kernel
theorem dX2_fillSets_60 : decode cX2_fillSets 60 = .ok (.iload_n 3, 1) := by decide +kernel
theorem dX2_fillSets_61 : decode cX2_fillSets 61 = .ok (.iload_n 1, 1) := by decide +kernel
theorem dX2_fillSets_62 : decode cX2_fillSets 62 = .ok (.iastore, 1) := by decide +kernel
theorem dX2_fillSets_63 : decode cX2_fillSets 63 = .ok (.iinc 1 1, 3) := by decide +kernel
theorem dX2_fillSets_66 : decode cX2_fillSets 66 = .ok (.iinc 2 (-1), 3) := by decide +kernel
theorem dX2_fillSets_69 : decode cX2_fillSets 69 = .ok (.goto (-50), 3) := by decide +kernel
theorem dX2_fillSets_72 : decode cX2_fillSets 72 = .ok (.return_, 1) := by decide +kernel
def VX2_fillSets_66 (d : Nat) (c19 : Nat → Int → Int → MS → Prop) (Q : Out → MS → Prop) (x0 : Nat) (x1 : Int) (x2 : Int) (S : MS) : Prop :=
  c19 x0 x1 (x2 + (-1)) S
theorem JX2_fillSets_66 {d : Nat} {c19 : Nat → Int → Int → MS → Prop} {S0 : MS} {Q : Out → MS → Prop} (hc19 : ∀ (x0 : Nat) (x1 : Int) (x2 : Int) (S : MS), c19 x0 x1 x2 S → Jw FinM RX2 cX2_fillSets 4 none [] yX2_fillSets (d + 1) S0 S 19 [(0, vA x0), (1, vI x1), (2, vI x2)] [] Q) (x0 : Nat) (x1 : Int) (x2 : Int) (S : MS) (h : VX2_fillSets_66 d c19 Q x0 x1 x2 S) : Jw FinM RX2 cX2_fillSets 4 none [] yX2_fillSets (d + 1) S0 S 66 [(0, vA x0), (1, vI x1), (2, vI x2)] [] Q :=
  j_iinc 2 (lv2 := [(2, vI (x2 + (-1))), (0, vA x0), (1, vI x1)]) dX2_fillSets_66 rfl (by decide) rfl (j_goto (tgt := 19) dX2_fillSets_69 (by decide) (j_sub [1, 2, 0] rfl (hc19 _ _ _ _ h)))
def VX2_fillSets_19 (d : Nat) (Q : Out → MS → Prop) : Nat → Nat → Int → Int → MS → Prop
  | 0, _, _, _, _ => False
  | n + 1, x0, x1, x2, S => R32 x2 ∧ ((x2 < 0) → Q (.inl none) S) ∧ (¬ (x2 < 0) → S.K x0 = 2 ∧ ∃ b1, S.R x0 1 = some b1 ∧ ((12 ≤ S.K b1 ∧ S.K b1 < 21) ∧ ((R32 x1 ∧ R32 ((S.N b1 : Int))) ∧ ((((S.N b1 : Int)) ≤ x1) → Q (.inl none) S) ∧ (¬ (((S.N b1 : Int)) ≤ x1) → Mw hJ6_bitCount_0f7a4 yJ6_bitCount_0f7a4 d [vI x2] S (oI (fun r2 S2 => S2.K x0 = 2 ∧ ((R32 r2 ∧ R32 (S2.I x0 0)) ∧ (¬ (r2 = (S2.I x0 0)) → VX2_fillSets_66 d (VX2_fillSets_19 d Q n) Q x0 x1 x2 S2) ∧ ((r2 = (S2.I x0 0)) → S2.K x0 = 2 ∧ Mw hX2_turned yX2_turned d [vA x0, vI x2] S2 (oI (fun r3 S3 => S3.K x0 = 2 ∧ ∃ b4, S3.R x0 1 = some b4 ∧ ((S3.K b4 = 13 ∧ 0 ≤ x1 ∧ x1 < S3.N b4) ∧ ((S3.setI b4 (x1).toNat r3).K x0 = 2 ∧ ∃ b5, (S3.setI b4 (x1).toNat r3).R x0 6 = some b5 ∧ (((S3.setI b4 (x1).toNat r3).K b5 = 13 ∧ 0 ≤ r3 ∧ r3 < (S3.setI b4 (x1).toNat r3).N b5) ∧ (VX2_fillSets_66 d (VX2_fillSets_19 d Q n) Q x0 (x1 + 1) x2 ((S3.setI b4 (x1).toNat r3).setI b5 (r3).toNat x1)))))))))))))))
theorem JX2_fillSets_19 {d : Nat} {S0 : MS} {Q : Out → MS → Prop} : ∀ (n : Nat) (x0 : Nat) (x1 : Int) (x2 : Int) (S : MS), VX2_fillSets_19 d Q n x0 x1 x2 S → Jw FinM RX2 cX2_fillSets 4 none [] yX2_fillSets (d + 1) S0 S 19 [(0, vA x0), (1, vI x1), (2, vI x2)] [] Q := by
  intro n
  induction n with
  | zero => intro x0 x1 x2 S h; exact h.elim
  | succ n ih =>
    intro x0 x1 x2 S h
    exact j_iload_n 2 dX2_fillSets_19 rfl (j_if_lt (tgt := 72) dX2_fillSets_20 (by decide) h (fun h => j_vret rfl dX2_fillSets_72 h) (fun h => j_iload_n 1 dX2_fillSets_23 rfl (j_aload_n 0 dX2_fillSets_24 rfl (j_getR 2 1 f_RX2_36 dX2_fillSets_25 h (fun b1 h => j_alen dX2_fillSets_28 h (fun h => j_icmp_ge (tgt := 72) dX2_fillSets_29 (by decide) h (fun h => j_vret rfl dX2_fillSets_72 h) (fun h => j_iload_n 2 dX2_fillSets_32 rfl (j_callS (rest := []) [vI x2] k_RX2_31 w_2_86 rfl rfl (Nat.le_of_ble_eq_true rfl) dX2_fillSets_33 h (kI (fun r2 S2 h => j_aload_n 0 dX2_fillSets_36 rfl (j_getI 2 0 f_RX2_28 dX2_fillSets_37 h (fun h => j_icmp_ne (tgt := 66) dX2_fillSets_40 (by decide) h (fun h => JX2_fillSets_66 ih _ _ _ _ h) (fun h => j_aload_n 0 dX2_fillSets_43 rfl (j_iload_n 2 dX2_fillSets_44 rfl (j_callV (rest := []) 2 [vI x2] k_RX2_58 ⟨w_2_185, p_1_5⟩ ⟨_, _, rfl⟩ (by decide) rfl rfl (Nat.le_of_ble_eq_true rfl) dX2_fillSets_45 h (kI (fun r3 S3 h => j_istore_n (lv2 := [(3, vI r3), (0, vA x0), (1, vI x1), (2, vI x2)]) dX2_fillSets_48 (by decide) rfl (j_aload_n 1 dX2_fillSets_49 rfl (j_getR 2 1 f_RX2_36 dX2_fillSets_50 h (fun b4 h => j_iload_n 2 dX2_fillSets_53 rfl (j_iload_n 0 dX2_fillSets_54 rfl (j_iast dX2_fillSets_55 h (fun h => j_aload_n 1 dX2_fillSets_56 rfl (j_getR 2 6 f_RX2_40 dX2_fillSets_57 h (fun b5 h => j_iload_n 0 dX2_fillSets_60 rfl (j_iload_n 2 dX2_fillSets_61 rfl (j_iast dX2_fillSets_62 h (fun h => j_iinc 2 (lv2 := [(1, vI (x1 + 1)), (3, vI r3), (0, vA x0), (2, vI x2)]) dX2_fillSets_63 rfl (by decide) rfl (j_sub [2, 0, 3] rfl (JX2_fillSets_66 ih _ _ _ _ h))))))))))))))) (fun _ _ h => h.elim)))))))) (fun _ _ h => h.elim)))))))))
def VX2_fillSets_0 (d : Nat) (Q : Out → MS → Prop) (x0 : Nat) (S : MS) : Prop :=
  S.K x0 = 2 ∧ ∃ b1, S.R x0 6 = some b1 ∧ (Mw hJ7_fill_53178 yJ7_fill_53178 d [vA b1, vI ((-1))] S (oV (fun S2 => S2.K x0 = 2 ∧ (∃ m, VX2_fillSets_19 d Q m x0 0 ((iShl 1 (S2.I x0 5)) - 1) S2))))
theorem JX2_fillSets_0 {d : Nat} {S0 : MS} {Q : Out → MS → Prop} (x0 : Nat) (S : MS) (h : VX2_fillSets_0 d Q x0 S) : Jw FinM RX2 cX2_fillSets 4 none [] yX2_fillSets (d + 1) S0 S 0 [(0, vA x0)] [] Q :=
  j_aload_n 0 dX2_fillSets_0 rfl (j_getR 2 6 f_RX2_40 dX2_fillSets_1 h (fun b1 h => j_iconst dX2_fillSets_4 (j_callS (rest := []) [vA b1, vI ((-1))] k_RX2_52 w_2_181 rfl rfl (Nat.le_of_ble_eq_true rfl) dX2_fillSets_5 h (kV (fun S2 h => j_iconst dX2_fillSets_8 (j_istore_n (lv2 := [(1, vI 0), (0, vA x0)]) dX2_fillSets_9 (by decide) rfl (j_iconst dX2_fillSets_10 (j_aload_n 1 dX2_fillSets_11 rfl (j_getI 2 5 f_RX2_18 dX2_fillSets_12 h (fun h => j_ishl dX2_fillSets_15 (j_iconst dX2_fillSets_16 (j_isub dX2_fillSets_17 (j_istore_n (lv2 := [(2, vI ((iShl 1 (S2.I x0 5)) - 1)), (1, vI 0), (0, vA x0)]) dX2_fillSets_18 (by decide) rfl (Exists.elim h (fun m h => j_sub [2, 1, 0] rfl (JX2_fillSets_19 m _ _ _ _ h))))))))))))) (fun _ _ h => h.elim))))
theorem MX2_fillSets {d : Nat} {x0 : Nat} {S : MS} {Q : Out → MS → Prop} (h : VX2_fillSets_0 d Q x0 S) : Mw hX2_fillSets yX2_fillSets (d + 1) [vA x0] S Q := Mw.ofJ (by decide) (Nat.le_of_ble_eq_true rfl) (JX2_fillSets_0 _ S h)
theorem dX2_turned_0 : decode cX2_turned 0 = .ok (.iconst 0, 1) := by decide +kernel
theorem dX2_turned_1 : decode cX2_turned 1 = .ok (.istore_n 2, 1) := by decide +kernel
theorem dX2_turned_2 : decode cX2_turned 2 = .ok (.iconst 0, 1) := by decide +kernel
theorem dX2_turned_3 : decode cX2_turned 3 = .ok (.istore_n 3, 1) := by decide +kernel
theorem dX2_turned_4 : decode cX2_turned 4 = .ok (.iload_n 3, 1) := by decide +kernel
theorem dX2_turned_5 : decode cX2_turned 5 = .ok (.aload_n 0, 1) := by decide +kernel
theorem dX2_turned_6 : decode cX2_turned 6 = .ok (.getfield 18, 3) := by decide +kernel
theorem dX2_turned_9 : decode cX2_turned 9 = .ok (.if_icmp .ge 26, 3) := by decide +kernel
theorem dX2_turned_12 : decode cX2_turned 12 = .ok (.iload_n 2, 1) := by decide +kernel
theorem dX2_turned_13 : decode cX2_turned 13 = .ok (.iload_n 1, 1) := by decide +kernel
theorem dX2_turned_14 : decode cX2_turned 14 = .ok (.iload_n 3, 1) := by decide +kernel
theorem dX2_turned_15 : decode cX2_turned 15 = .ok (.ishr, 1) := by decide +kernel
theorem dX2_turned_16 : decode cX2_turned 16 = .ok (.iconst 1, 1) := by decide +kernel
theorem dX2_turned_17 : decode cX2_turned 17 = .ok (.iand, 1) := by decide +kernel
theorem dX2_turned_18 : decode cX2_turned 18 = .ok (.aload_n 0, 1) := by decide +kernel
theorem dX2_turned_19 : decode cX2_turned 19 = .ok (.getfield 18, 3) := by decide +kernel
theorem dX2_turned_22 : decode cX2_turned 22 = .ok (.iconst 1, 1) := by decide +kernel
theorem dX2_turned_23 : decode cX2_turned 23 = .ok (.isub, 1) := by decide +kernel
theorem dX2_turned_24 : decode cX2_turned 24 = .ok (.iload_n 3, 1) := by decide +kernel
theorem dX2_turned_25 : decode cX2_turned 25 = .ok (.isub, 1) := by decide +kernel
theorem dX2_turned_26 : decode cX2_turned 26 = .ok (.ishl, 1) := by decide +kernel
theorem dX2_turned_27 : decode cX2_turned 27 = .ok (.ior, 1) := by decide +kernel
theorem dX2_turned_28 : decode cX2_turned 28 = .ok (.istore_n 2, 1) := by decide +kernel
theorem dX2_turned_29 : decode cX2_turned 29 = .ok (.iinc 3 1, 3) := by decide +kernel
theorem dX2_turned_32 : decode cX2_turned 32 = .ok (.goto (-28), 3) := by decide +kernel
theorem dX2_turned_35 : decode cX2_turned 35 = .ok (.iload_n 2, 1) := by decide +kernel
theorem dX2_turned_36 : decode cX2_turned 36 = .ok (.ireturn, 1) := by decide +kernel
def VX2_turned_4 (d : Nat) (Q : Out → MS → Prop) : Nat → Nat → Int → Int → Int → MS → Prop
  | 0, _, _, _, _, _ => False
  | n + 1, x0, x1, x2, x3, S => S.K x0 = 2 ∧ ((R32 x3 ∧ R32 (S.I x0 5)) ∧ (((S.I x0 5) ≤ x3) → Q (.inl (some (vI x2))) S) ∧ (¬ ((S.I x0 5) ≤ x3) → S.K x0 = 2 ∧ ((VX2_turned_4 d Q n) x0 x1 (iOr x2 (iShl (iAnd (iShr x1 x3) 1) (((S.I x0 5) - 1) - x3))) (x3 + 1) S)))
theorem JX2_turned_4 {d : Nat} {S0 : MS} {Q : Out → MS → Prop} : ∀ (n : Nat) (x0 : Nat) (x1 : Int) (x2 : Int) (x3 : Int) (S : MS), VX2_turned_4 d Q n x0 x1 x2 x3 S → Jw FinM RX2 cX2_turned 4 (some .int) [] yX2_turned (d + 1) S0 S 4 [(0, vA x0), (1, vI x1), (2, vI x2), (3, vI x3)] [] Q := by
  intro n
  induction n with
  | zero => intro x0 x1 x2 x3 S h; exact h.elim
  | succ n ih =>
    intro x0 x1 x2 x3 S h
    exact j_iload_n 3 dX2_turned_4 rfl (j_aload_n 0 dX2_turned_5 rfl (j_getI 2 5 f_RX2_18 dX2_turned_6 h (fun h => j_icmp_ge (tgt := 35) dX2_turned_9 (by decide) h (fun h => j_iload_n 2 dX2_turned_35 rfl (j_iret rfl dX2_turned_36 h)) (fun h => j_iload_n 2 dX2_turned_12 rfl (j_iload_n 1 dX2_turned_13 rfl (j_iload_n 3 dX2_turned_14 rfl (j_ishr dX2_turned_15 (j_iconst dX2_turned_16 (j_iand dX2_turned_17 (j_aload_n 0 dX2_turned_18 rfl (j_getI 2 5 f_RX2_18 dX2_turned_19 h (fun h => j_iconst dX2_turned_22 (j_isub dX2_turned_23 (j_iload_n 3 dX2_turned_24 rfl (j_isub dX2_turned_25 (j_ishl dX2_turned_26 (j_ior dX2_turned_27 (j_istore_n (lv2 := [(2, vI (iOr x2 (iShl (iAnd (iShr x1 x3) 1) (((S.I x0 5) - 1) - x3)))), (0, vA x0), (1, vI x1), (3, vI x3)]) dX2_turned_28 (by decide) rfl (j_iinc 3 (lv2 := [(3, vI (x3 + 1)), (2, vI (iOr x2 (iShl (iAnd (iShr x1 x3) 1) (((S.I x0 5) - 1) - x3)))), (0, vA x0), (1, vI x1)]) dX2_turned_29 rfl (by decide) rfl (j_goto (tgt := 4) dX2_turned_32 (by decide) (j_sub [2, 3, 1, 0] rfl (ih _ _ _ _ _ h))))))))))))))))))))))
def VX2_turned_0 (d : Nat) (Q : Out → MS → Prop) (x0 : Nat) (x1 : Int) (S : MS) : Prop :=
  ∃ m, VX2_turned_4 d Q m x0 x1 0 0 S
theorem JX2_turned_0 {d : Nat} {S0 : MS} {Q : Out → MS → Prop} (x0 : Nat) (x1 : Int) (S : MS) (h : VX2_turned_0 d Q x0 x1 S) : Jw FinM RX2 cX2_turned 4 (some .int) [] yX2_turned (d + 1) S0 S 0 [(0, vA x0), (1, vI x1)] [] Q :=
  j_iconst dX2_turned_0 (j_istore_n (lv2 := [(2, vI 0), (0, vA x0), (1, vI x1)]) dX2_turned_1 (by decide) rfl (j_iconst dX2_turned_2 (j_istore_n (lv2 := [(3, vI 0), (2, vI 0), (0, vA x0), (1, vI x1)]) dX2_turned_3 (by decide) rfl (Exists.elim h (fun m h => j_sub [2, 3, 1, 0] rfl (JX2_turned_4 m _ _ _ _ _ h))))))
theorem MX2_turned {d : Nat} {x0 : Nat} {x1 : Int} {S : MS} {Q : Out → MS → Prop} (h : VX2_turned_0 d Q x0 x1 S) : Mw hX2_turned yX2_turned (d + 1) [vA x0, vI x1] S Q := Mw.ofJ (by decide) (Nat.le_of_ble_eq_true rfl) (JX2_turned_0 _ _ S h)
theorem dX2_fillRisings_0 : decode cX2_fillRisings 0 = .ok (.iconst 0, 1) := by decide +kernel
theorem dX2_fillRisings_1 : decode cX2_fillRisings 1 = .ok (.istore_n 2, 1) := by decide +kernel
theorem dX2_fillRisings_2 : decode cX2_fillRisings 2 = .ok (.iconst 0, 1) := by decide +kernel
theorem dX2_fillRisings_3 : decode cX2_fillRisings 3 = .ok (.istore_n 3, 1) := by decide +kernel
theorem dX2_fillRisings_4 : decode cX2_fillRisings 4 = .ok (.iload_n 3, 1) := by decide +kernel
theorem dX2_fillRisings_5 : decode cX2_fillRisings 5 = .ok (.aload_n 0, 1) := by decide +kernel
theorem dX2_fillRisings_6 : decode cX2_fillRisings 6 = .ok (.getfield 36, 3) := by decide +kernel
theorem dX2_fillRisings_9 : decode cX2_fillRisings 9 = .ok (.arraylength, 1) := by decide +kernel
theorem dX2_fillRisings_10 : decode cX2_fillRisings 10 = .ok (.if_icmp .ge 72, 3) := by decide +kernel
theorem dX2_fillRisings_13 : decode cX2_fillRisings 13 = .ok (.iconst 0, 1) := by decide +kernel
theorem dX2_fillRisings_14 : decode cX2_fillRisings 14 = .ok (.istore 4, 2) := by decide +kernel
theorem dX2_fillRisings_16 : decode cX2_fillRisings 16 = .ok (.iload 4, 2) := by decide +kernel
theorem dX2_fillRisings_18 : decode cX2_fillRisings 18 = .ok (.aload_n 0, 1) := by decide +kernel
theorem dX2_fillRisings_19 : decode cX2_fillRisings 19 = .ok (.getfield 18, 3) := by decide +kernel
theorem dX2_fillRisings_22 : decode cX2_fillRisings 22 = .ok (.if_icmp .ge 54, 3) := by decide +kernel
theorem dX2_fillRisings_25 : decode cX2_fillRisings 25 = .ok (.iload_n 2, 1) := by decide +kernel
theorem dX2_fillRisings_26 : decode cX2_fillRisings 26 = .ok (.aload_n 0, 1) := by decide +kernel
theorem dX2_fillRisings_27 : decode cX2_fillRisings 27 = .ok (.getfield 45, 3) := by decide +kernel
theorem dX2_fillRisings_30 : decode cX2_fillRisings 30 = .ok (.arraylength, 1) := by decide +kernel
theorem dX2_fillRisings_31 : decode cX2_fillRisings 31 = .ok (.if_icmp .ge 45, 3) := by decide +kernel
theorem dX2_fillRisings_34 : decode cX2_fillRisings 34 = .ok (.aload_n 0, 1) := by decide +kernel
theorem dX2_fillRisings_35 : decode cX2_fillRisings 35 = .ok (.getfield 36, 3) := by decide +kernel
theorem dX2_fillRisings_38 : decode cX2_fillRisings 38 = .ok (.iload_n 3, 1) := by decide +kernel
theorem dX2_fillRisings_39 : decode cX2_fillRisings 39 = .ok (.iaload, 1) := by decide +kernel
theorem dX2_fillRisings_40 : decode cX2_fillRisings 40 = .ok (.iload 4, 2) := by decide +kernel
theorem dX2_fillRisings_42 : decode cX2_fillRisings 42 = .ok (.invokestatic 61, 3) := by decide +kernel
theorem dX2_fillRisings_45 : decode cX2_fillRisings 45 = .ok (.ifCond .eq 25, 3) := by decide +kernel
theorem dX2_fillRisings_48 : decode cX2_fillRisings 48 = .ok (.aload_n 0, 1) := by decide +kernel
theorem dX2_fillRisings_49 : decode cX2_fillRisings 49 = .ok (.aload_n 1, 1) := by decide +kernel
theorem dX2_fillRisings_50 : decode cX2_fillRisings 50 = .ok (.aload_n 0, 1) := by decide +kernel
theorem dX2_fillRisings_51 : decode cX2_fillRisings 51 = .ok (.getfield 36, 3) := by decide +kernel
theorem dX2_fillRisings_54 : decode cX2_fillRisings 54 = .ok (.iload_n 3, 1) := by decide +kernel
theorem dX2_fillRisings_55 : decode cX2_fillRisings 55 = .ok (.iaload, 1) := by decide +kernel
theorem dX2_fillRisings_56 : decode cX2_fillRisings 56 = .ok (.iload 4, 2) := by decide +kernel
theorem dX2_fillRisings_58 : decode cX2_fillRisings 58 = .ok (.aload_n 0, 1) := by decide +kernel
theorem dX2_fillRisings_59 : decode cX2_fillRisings 59 = .ok (.getfield 45, 3) := by decide +kernel
theorem dX2_fillRisings_62 : decode cX2_fillRisings 62 = .ok (.iload_n 2, 1) := by decide +kernel
theorem dX2_fillRisings_63 : decode cX2_fillRisings 63 = .ok (.aaload, 1) := by decide +kernel
theorem dX2_fillRisings_64 : decode cX2_fillRisings 64 = .ok (.invokevirtual 65, 3) := by decide +kernel
theorem dX2_fillRisings_67 : decode cX2_fillRisings 67 = .ok (.iinc 2 1, 3) := by decide +kernel
theorem dX2_fillRisings_70 : decode cX2_fillRisings 70 = .ok (.iinc 4 1, 3) := by decide +kernel
theorem dX2_fillRisings_73 : decode cX2_fillRisings 73 = .ok (.goto (-57), 3) := by decide +kernel
theorem dX2_fillRisings_76 : decode cX2_fillRisings 76 = .ok (.iinc 3 1, 3) := by decide +kernel
theorem dX2_fillRisings_79 : decode cX2_fillRisings 79 = .ok (.goto (-75), 3) := by decide +kernel
theorem dX2_fillRisings_82 : decode cX2_fillRisings 82 = .ok (.return_, 1) := by decide +kernel
def VX2_fillRisings_70 (d : Nat) (c4 : Nat → Nat → Int → Int → MS → Prop) (c16 : Nat → Nat → Int → Int → Int → MS → Prop) (Q : Out → MS → Prop) (x0 : Nat) (x1 : Nat) (x2 : Int) (x3 : Int) (x4 : Int) (S : MS) : Prop :=
  c16 x0 x1 x2 x3 (x4 + 1) S
theorem JX2_fillRisings_70 {d : Nat} {c4 : Nat → Nat → Int → Int → MS → Prop} {c16 : Nat → Nat → Int → Int → Int → MS → Prop} {S0 : MS} {Q : Out → MS → Prop} (hc4 : ∀ (x0 : Nat) (x1 : Nat) (x2 : Int) (x3 : Int) (S : MS), c4 x0 x1 x2 x3 S → Jw FinM RX2 cX2_fillRisings 5 none [] yX2_fillRisings (d + 1) S0 S 4 [(0, vA x0), (1, vA x1), (2, vI x2), (3, vI x3)] [] Q) (hc16 : ∀ (x0 : Nat) (x1 : Nat) (x2 : Int) (x3 : Int) (x4 : Int) (S : MS), c16 x0 x1 x2 x3 x4 S → Jw FinM RX2 cX2_fillRisings 5 none [] yX2_fillRisings (d + 1) S0 S 16 [(0, vA x0), (1, vA x1), (2, vI x2), (3, vI x3), (4, vI x4)] [] Q) (x0 : Nat) (x1 : Nat) (x2 : Int) (x3 : Int) (x4 : Int) (S : MS) (h : VX2_fillRisings_70 d c4 c16 Q x0 x1 x2 x3 x4 S) : Jw FinM RX2 cX2_fillRisings 5 none [] yX2_fillRisings (d + 1) S0 S 70 [(0, vA x0), (1, vA x1), (2, vI x2), (3, vI x3), (4, vI x4)] [] Q :=
  j_iinc 4 (lv2 := [(4, vI (x4 + 1)), (0, vA x0), (1, vA x1), (2, vI x2), (3, vI x3)]) dX2_fillRisings_70 rfl (by decide) rfl (j_goto (tgt := 16) dX2_fillRisings_73 (by decide) (j_sub [1, 2, 3, 4, 0] rfl (hc16 _ _ _ _ _ _ h)))
def VX2_fillRisings_76 (d : Nat) (c4 : Nat → Nat → Int → Int → MS → Prop) (Q : Out → MS → Prop) (x0 : Nat) (x1 : Nat) (x2 : Int) (x3 : Int) (S : MS) : Prop :=
  c4 x0 x1 x2 (x3 + 1) S
theorem JX2_fillRisings_76 {d : Nat} {c4 : Nat → Nat → Int → Int → MS → Prop} {S0 : MS} {Q : Out → MS → Prop} (hc4 : ∀ (x0 : Nat) (x1 : Nat) (x2 : Int) (x3 : Int) (S : MS), c4 x0 x1 x2 x3 S → Jw FinM RX2 cX2_fillRisings 5 none [] yX2_fillRisings (d + 1) S0 S 4 [(0, vA x0), (1, vA x1), (2, vI x2), (3, vI x3)] [] Q) (x0 : Nat) (x1 : Nat) (x2 : Int) (x3 : Int) (S : MS) (h : VX2_fillRisings_76 d c4 Q x0 x1 x2 x3 S) : Jw FinM RX2 cX2_fillRisings 5 none [] yX2_fillRisings (d + 1) S0 S 76 [(0, vA x0), (1, vA x1), (2, vI x2), (3, vI x3)] [] Q :=
  j_iinc 3 (lv2 := [(3, vI (x3 + 1)), (0, vA x0), (1, vA x1), (2, vI x2)]) dX2_fillRisings_76 rfl (by decide) rfl (j_goto (tgt := 4) dX2_fillRisings_79 (by decide) (j_sub [1, 2, 3, 0] rfl (hc4 _ _ _ _ _ h)))
def VX2_fillRisings_16 (d : Nat) (c4 : Nat → Nat → Int → Int → MS → Prop) (Q : Out → MS → Prop) : Nat → Nat → Nat → Int → Int → Int → MS → Prop
  | 0, _, _, _, _, _, _ => False
  | n + 1, x0, x1, x2, x3, x4, S => S.K x0 = 2 ∧ ((R32 x4 ∧ R32 (S.I x0 5)) ∧ (((S.I x0 5) ≤ x4) → VX2_fillRisings_76 d c4 Q x0 x1 x2 x3 S) ∧ (¬ ((S.I x0 5) ≤ x4) → S.K x0 = 2 ∧ ∃ b1, S.R x0 7 = some b1 ∧ ((12 ≤ S.K b1 ∧ S.K b1 < 21) ∧ ((R32 x2 ∧ R32 ((S.N b1 : Int))) ∧ ((((S.N b1 : Int)) ≤ x2) → VX2_fillRisings_76 d c4 Q x0 x1 x2 x3 S) ∧ (¬ (((S.N b1 : Int)) ≤ x2) → S.K x0 = 2 ∧ ∃ b2, S.R x0 1 = some b2 ∧ ((S.K b2 = 13 ∧ 0 ≤ x3 ∧ x3 < S.N b2) ∧ (Mw hX10_holds yX10_holds d [vI (S.I b2 (x3).toNat), vI x4] S (oI (fun r3 S3 => R32 r3 ∧ ((r3 = 0) → VX2_fillRisings_70 d c4 (VX2_fillRisings_16 d c4 Q n) Q x0 x1 x2 x3 x4 S3) ∧ (¬ (r3 = 0) → S3.K x0 = 2 ∧ ∃ b4, S3.R x0 1 = some b4 ∧ ((S3.K b4 = 13 ∧ 0 ≤ x3 ∧ x3 < S3.N b4) ∧ (S3.K x0 = 2 ∧ ∃ b5, S3.R x0 7 = some b5 ∧ ((S3.K b5 = 20 ∧ (17 ≤ 20 ∧ 20 < 21) ∧ 0 ≤ x2 ∧ x2 < S3.N b5) ∧ ∃ b6, S3.R b5 (x2).toNat = some b6 ∧ (S3.K x0 = 2 ∧ Mw hX2_fillRising yX2_fillRising d [vA x0, vA x1, vI (S3.I b4 (x3).toNat), vI x4, vA b6] S3 (oV (fun S7 => VX2_fillRisings_70 d c4 (VX2_fillRisings_16 d c4 Q n) Q x0 x1 (x2 + 1) x3 x4 S7))))))))))))))))
theorem JX2_fillRisings_16 {d : Nat} {c4 : Nat → Nat → Int → Int → MS → Prop} {S0 : MS} {Q : Out → MS → Prop} (hc4 : ∀ (x0 : Nat) (x1 : Nat) (x2 : Int) (x3 : Int) (S : MS), c4 x0 x1 x2 x3 S → Jw FinM RX2 cX2_fillRisings 5 none [] yX2_fillRisings (d + 1) S0 S 4 [(0, vA x0), (1, vA x1), (2, vI x2), (3, vI x3)] [] Q) : ∀ (n : Nat) (x0 : Nat) (x1 : Nat) (x2 : Int) (x3 : Int) (x4 : Int) (S : MS), VX2_fillRisings_16 d c4 Q n x0 x1 x2 x3 x4 S → Jw FinM RX2 cX2_fillRisings 5 none [] yX2_fillRisings (d + 1) S0 S 16 [(0, vA x0), (1, vA x1), (2, vI x2), (3, vI x3), (4, vI x4)] [] Q := by
  intro n
  induction n with
  | zero => intro x0 x1 x2 x3 x4 S h; exact h.elim
  | succ n ih =>
    intro x0 x1 x2 x3 x4 S h
    exact j_iload 4 dX2_fillRisings_16 rfl (j_aload_n 0 dX2_fillRisings_18 rfl (j_getI 2 5 f_RX2_18 dX2_fillRisings_19 h (fun h => j_icmp_ge (tgt := 76) dX2_fillRisings_22 (by decide) h (fun h => j_sub [0, 1, 2, 3] rfl (JX2_fillRisings_76 hc4 _ _ _ _ _ h)) (fun h => j_iload_n 2 dX2_fillRisings_25 rfl (j_aload_n 0 dX2_fillRisings_26 rfl (j_getR 2 7 f_RX2_45 dX2_fillRisings_27 h (fun b1 h => j_alen dX2_fillRisings_30 h (fun h => j_icmp_ge (tgt := 76) dX2_fillRisings_31 (by decide) h (fun h => j_sub [0, 1, 2, 3] rfl (JX2_fillRisings_76 hc4 _ _ _ _ _ h)) (fun h => j_aload_n 0 dX2_fillRisings_34 rfl (j_getR 2 1 f_RX2_36 dX2_fillRisings_35 h (fun b2 h => j_iload_n 3 dX2_fillRisings_38 rfl (j_iald dX2_fillRisings_39 h (fun h => j_iload 4 dX2_fillRisings_40 rfl (j_callSN (rest := []) [vI (S.I b2 (x3).toNat), vI x4] k_RX2_61 w_2_192 rfl rfl (Nat.le_of_ble_eq_true rfl) dX2_fillRisings_42 h (kI (fun r3 S3 h => j_if_eq (tgt := 70) dX2_fillRisings_45 (by decide) h (fun h => JX2_fillRisings_70 hc4 ih _ _ _ _ _ _ h) (fun h => j_aload_n 0 dX2_fillRisings_48 rfl (j_aload_n 1 dX2_fillRisings_49 rfl (j_aload_n 0 dX2_fillRisings_50 rfl (j_getR 2 1 f_RX2_36 dX2_fillRisings_51 h (fun b4 h => j_iload_n 3 dX2_fillRisings_54 rfl (j_iald dX2_fillRisings_55 h (fun h => j_iload 4 dX2_fillRisings_56 rfl (j_aload_n 0 dX2_fillRisings_58 rfl (j_getR 2 7 f_RX2_45 dX2_fillRisings_59 h (fun b5 h => j_iload_n 2 dX2_fillRisings_62 rfl (j_aald 20 dX2_fillRisings_63 h (fun b6 h => j_callV (rest := []) 2 [vA x1, vI (S3.I b4 (x3).toNat), vI x4, vA b6] k_RX2_65 ⟨w_2_196, p_1_6⟩ ⟨_, _, rfl⟩ (by decide) rfl rfl (Nat.le_of_ble_eq_true rfl) dX2_fillRisings_64 h (kV (fun S7 h => j_iinc 2 (lv2 := [(2, vI (x2 + 1)), (0, vA x0), (1, vA x1), (3, vI x3), (4, vI x4)]) dX2_fillRisings_67 rfl (by decide) rfl (j_sub [1, 2, 0, 3, 4] rfl (JX2_fillRisings_70 hc4 ih _ _ _ _ _ _ h)))) (fun _ _ h => h.elim)))))))))))))))))))))))))))))
def VX2_fillRisings_4 (d : Nat) (Q : Out → MS → Prop) : Nat → Nat → Nat → Int → Int → MS → Prop
  | 0, _, _, _, _, _ => False
  | n + 1, x0, x1, x2, x3, S => S.K x0 = 2 ∧ ∃ b1, S.R x0 1 = some b1 ∧ ((12 ≤ S.K b1 ∧ S.K b1 < 21) ∧ ((R32 x3 ∧ R32 ((S.N b1 : Int))) ∧ ((((S.N b1 : Int)) ≤ x3) → Q (.inl none) S) ∧ (¬ (((S.N b1 : Int)) ≤ x3) → ∃ m, VX2_fillRisings_16 d (VX2_fillRisings_4 d Q n) Q m x0 x1 x2 x3 0 S)))
theorem JX2_fillRisings_4 {d : Nat} {S0 : MS} {Q : Out → MS → Prop} : ∀ (n : Nat) (x0 : Nat) (x1 : Nat) (x2 : Int) (x3 : Int) (S : MS), VX2_fillRisings_4 d Q n x0 x1 x2 x3 S → Jw FinM RX2 cX2_fillRisings 5 none [] yX2_fillRisings (d + 1) S0 S 4 [(0, vA x0), (1, vA x1), (2, vI x2), (3, vI x3)] [] Q := by
  intro n
  induction n with
  | zero => intro x0 x1 x2 x3 S h; exact h.elim
  | succ n ih =>
    intro x0 x1 x2 x3 S h
    exact j_iload_n 3 dX2_fillRisings_4 rfl (j_aload_n 0 dX2_fillRisings_5 rfl (j_getR 2 1 f_RX2_36 dX2_fillRisings_6 h (fun b1 h => j_alen dX2_fillRisings_9 h (fun h => j_icmp_ge (tgt := 82) dX2_fillRisings_10 (by decide) h (fun h => j_vret rfl dX2_fillRisings_82 h) (fun h => j_iconst dX2_fillRisings_13 (j_istore (lv2 := [(4, vI 0), (0, vA x0), (1, vA x1), (2, vI x2), (3, vI x3)]) dX2_fillRisings_14 (by decide) rfl (Exists.elim h (fun m h => j_sub [1, 2, 3, 4, 0] rfl (JX2_fillRisings_16 ih m _ _ _ _ _ _ h)))))))))
def VX2_fillRisings_0 (d : Nat) (Q : Out → MS → Prop) (x0 : Nat) (x1 : Nat) (S : MS) : Prop :=
  ∃ m, VX2_fillRisings_4 d Q m x0 x1 0 0 S
theorem JX2_fillRisings_0 {d : Nat} {S0 : MS} {Q : Out → MS → Prop} (x0 : Nat) (x1 : Nat) (S : MS) (h : VX2_fillRisings_0 d Q x0 x1 S) : Jw FinM RX2 cX2_fillRisings 5 none [] yX2_fillRisings (d + 1) S0 S 0 [(0, vA x0), (1, vA x1)] [] Q :=
  j_iconst dX2_fillRisings_0 (j_istore_n (lv2 := [(2, vI 0), (0, vA x0), (1, vA x1)]) dX2_fillRisings_1 (by decide) rfl (j_iconst dX2_fillRisings_2 (j_istore_n (lv2 := [(3, vI 0), (2, vI 0), (0, vA x0), (1, vA x1)]) dX2_fillRisings_3 (by decide) rfl (Exists.elim h (fun m h => j_sub [2, 3, 1, 0] rfl (JX2_fillRisings_4 m _ _ _ _ _ h))))))
theorem MX2_fillRisings {d : Nat} {x0 : Nat} {x1 : Nat} {S : MS} {Q : Out → MS → Prop} (h : VX2_fillRisings_0 d Q x0 x1 S) : Mw hX2_fillRisings yX2_fillRisings (d + 1) [vA x0, vA x1] S Q := Mw.ofJ (by decide) (Nat.le_of_ble_eq_true rfl) (JX2_fillRisings_0 _ _ S h)
theorem dX2_fillRising_0 : decode cX2_fillRising 0 = .ok (.iconst 0, 1) := by decide +kernel
theorem dX2_fillRising_1 : decode cX2_fillRising 1 = .ok (.istore 5, 2) := by decide +kernel
theorem dX2_fillRising_3 : decode cX2_fillRising 3 = .ok (.iload 5, 2) := by decide +kernel
theorem dX2_fillRising_5 : decode cX2_fillRising 5 = .ok (.aload 4, 2) := by decide +kernel
theorem dX2_fillRising_7 : decode cX2_fillRising 7 = .ok (.arraylength, 1) := by decide +kernel
theorem dX2_fillRising_8 : decode cX2_fillRising 8 = .ok (.if_icmp .ge 118, 3) := by decide +kernel
theorem dX2_fillRising_11 : decode cX2_fillRising 11 = .ok (.lconst 0, 1) := by decide +kernel
theorem dX2_fillRising_12 : decode cX2_fillRising 12 = .ok (.lstore 6, 2) := by decide +kernel
theorem dX2_fillRising_14 : decode cX2_fillRising 14 = .ok (.lconst 0, 1) := by decide +kernel
theorem dX2_fillRising_15 : decode cX2_fillRising 15 = .ok (.lstore 8, 2) := by decide +kernel
theorem dX2_fillRising_17 : decode cX2_fillRising 17 = .ok (.iconst 0, 1) := by decide +kernel
theorem dX2_fillRising_18 : decode cX2_fillRising 18 = .ok (.istore 10, 2) := by decide +kernel
theorem dX2_fillRising_20 : decode cX2_fillRising 20 = .ok (.iload 10, 2) := by decide +kernel
theorem dX2_fillRising_22 : decode cX2_fillRising 22 = .ok (.aload_n 0, 1) := by decide +kernel
theorem dX2_fillRising_23 : decode cX2_fillRising 23 = .ok (.getfield 18, 3) := by decide +kernel
theorem dX2_fillRising_26 : decode cX2_fillRising 26 = .ok (.if_icmp .ge 53, 3) := by decide +kernel
theorem dX2_fillRising_29 : decode cX2_fillRising 29 = .ok (.iload 10, 2) := by decide +kernel
theorem dX2_fillRising_31 : decode cX2_fillRising 31 = .ok (.iload_n 3, 1) := by decide +kernel
theorem dX2_fillRising_32 : decode cX2_fillRising 32 = .ok (.if_icmp .eq 41, 3) := by decide +kernel
theorem dX2_fillRising_35 : decode cX2_fillRising 35 = .ok (.iload_n 2, 1) := by decide +kernel
theorem dX2_fillRising_36 : decode cX2_fillRising 36 = .ok (.iload 10, 2) := by decide +kernel
theorem dX2_fillRising_38 : decode cX2_fillRising 38 = .ok (.invokestatic 61, 3) := by decide +kernel
theorem dX2_fillRising_41 : decode cX2_fillRising 41 = .ok (.ifCond .eq 32, 3) := by decide +kernel
theorem dX2_fillRising_44 : decode cX2_fillRising 44 = .ok (.aload_n 1, 1) := by decide +kernel
theorem dX2_fillRising_45 : decode cX2_fillRising 45 = .ok (.iload 10, 2) := by decide +kernel
theorem dX2_fillRising_47 : decode cX2_fillRising 47 = .ok (.iload_n 3, 1) := by decide +kernel
theorem dX2_fillRising_48 : decode cX2_fillRising 48 = .ok (.invokevirtual 69, 3) := by decide +kernel
theorem dX2_fillRising_51 : decode cX2_fillRising 51 = .ok (.iload 5, 2) := by decide +kernel
theorem dX2_fillRising_53 : decode cX2_fillRising 53 = .ok (.laload, 1) := by decide +kernel
theorem dX2_fillRising_54 : decode cX2_fillRising 54 = .ok (.lstore 11, 2) := by decide +kernel
theorem dX2_fillRising_56 : decode cX2_fillRising 56 = .ok (.lload 8, 2) := by decide +kernel
theorem dX2_fillRising_58 : decode cX2_fillRising 58 = .ok (.lload 6, 2) := by decide +kernel
theorem dX2_fillRising_60 : decode cX2_fillRising 60 = .ok (.lload 11, 2) := by decide +kernel
theorem dX2_fillRising_62 : decode cX2_fillRising 62 = .ok (.land, 1) := by decide +kernel
theorem dX2_fillRising_63 : decode cX2_fillRising 63 = .ok (.lor, 1) := by decide +kernel
theorem dX2_fillRising_64 : decode cX2_fillRising 64 = .ok (.lstore 8, 2) := by decide +kernel
theorem dX2_fillRising_66 : decode cX2_fillRising 66 = .ok (.lload 6, 2) := by decide +kernel
theorem dX2_fillRising_68 : decode cX2_fillRising 68 = .ok (.lload 11, 2) := by decide +kernel
theorem dX2_fillRising_70 : decode cX2_fillRising 70 = .ok (.lor, 1) := by decide +kernel
theorem dX2_fillRising_71 : decode cX2_fillRising 71 = .ok (.lstore 6, 2) := by decide +kernel
theorem dX2_fillRising_73 : decode cX2_fillRising 73 = .ok (.iinc 10 1, 3) := by decide +kernel
theorem dX2_fillRising_76 : decode cX2_fillRising 76 = .ok (.goto (-56), 3) := by decide +kernel
theorem dX2_fillRising_79 : decode cX2_fillRising 79 = .ok (.aload 4, 2) := by decide +kernel
theorem dX2_fillRising_81 : decode cX2_fillRising 81 = .ok (.iload 5, 2) := by decide +kernel
theorem dX2_fillRising_83 : decode cX2_fillRising 83 = .ok (.aload_n 0, 1) := by decide +kernel
theorem dX2_fillRising_84 : decode cX2_fillRising 84 = .ok (.getfield 21, 3) := by decide +kernel
theorem dX2_fillRising_87 : decode cX2_fillRising 87 = .ok (.invokestatic 75, 3) := by decide +kernel
theorem dX2_fillRising_90 : decode cX2_fillRising 90 = .ok (.ifCond .ne 20, 3) := by decide +kernel
theorem dX2_fillRising_93 : decode cX2_fillRising 93 = .ok (.aload_n 1, 1) := by decide +kernel
theorem dX2_fillRising_94 : decode cX2_fillRising 94 = .ok (.getfield 78, 3) := by decide +kernel
theorem dX2_fillRising_97 : decode cX2_fillRising 97 = .ok (.iload 5, 2) := by decide +kernel
theorem dX2_fillRising_99 : decode cX2_fillRising 99 = .ok (.laload, 1) := by decide +kernel
theorem dX2_fillRising_100 : decode cX2_fillRising 100 = .ok (.lload 6, 2) := by decide +kernel
theorem dX2_fillRising_102 : decode cX2_fillRising 102 = .ok (.ldc2_w 81, 3) := by decide +kernel
theorem dX2_fillRising_105 : decode cX2_fillRising 105 = .ok (.lxor, 1) := by decide +kernel
theorem dX2_fillRising_106 : decode cX2_fillRising 106 = .ok (.land, 1) := by decide +kernel
theorem dX2_fillRising_107 : decode cX2_fillRising 107 = .ok (.goto 12, 3) := by decide +kernel
theorem dX2_fillRising_110 : decode cX2_fillRising 110 = .ok (.lload 6, 2) := by decide +kernel
theorem dX2_fillRising_112 : decode cX2_fillRising 112 = .ok (.lload 8, 2) := by decide +kernel
theorem dX2_fillRising_114 : decode cX2_fillRising 114 = .ok (.ldc2_w 81, 3) := by decide +kernel
theorem dX2_fillRising_117 : decode cX2_fillRising 117 = .ok (.lxor, 1) := by decide +kernel
theorem dX2_fillRising_118 : decode cX2_fillRising 118 = .ok (.land, 1) := by decide +kernel
theorem dX2_fillRising_119 : decode cX2_fillRising 119 = .ok (.lastore, 1) := by decide +kernel
theorem dX2_fillRising_120 : decode cX2_fillRising 120 = .ok (.iinc 5 1, 3) := by decide +kernel
theorem dX2_fillRising_123 : decode cX2_fillRising 123 = .ok (.goto (-120), 3) := by decide +kernel
theorem dX2_fillRising_126 : decode cX2_fillRising 126 = .ok (.return_, 1) := by decide +kernel
def VX2_fillRising_73 (d : Nat) (c3 : Nat → Nat → Int → Int → Nat → Int → MS → Prop) (c20 : Nat → Nat → Int → Int → Nat → Int → BitVec 64 → BitVec 64 → Int → MS → Prop) (Q : Out → MS → Prop) (x0 : Nat) (x1 : Nat) (x2 : Int) (x3 : Int) (x4 : Nat) (x5 : Int) (x6 : BitVec 64) (x8 : BitVec 64) (x10 : Int) (S : MS) : Prop :=
  c20 x0 x1 x2 x3 x4 x5 x6 x8 (x10 + 1) S
theorem JX2_fillRising_73 {d : Nat} {c3 : Nat → Nat → Int → Int → Nat → Int → MS → Prop} {c20 : Nat → Nat → Int → Int → Nat → Int → BitVec 64 → BitVec 64 → Int → MS → Prop} {S0 : MS} {Q : Out → MS → Prop} (hc3 : ∀ (x0 : Nat) (x1 : Nat) (x2 : Int) (x3 : Int) (x4 : Nat) (x5 : Int) (S : MS), c3 x0 x1 x2 x3 x4 x5 S → Jw FinM RX2 cX2_fillRising 13 none [] yX2_fillRising (d + 1) S0 S 3 [(0, vA x0), (1, vA x1), (2, vI x2), (3, vI x3), (4, vA x4), (5, vI x5)] [] Q) (hc20 : ∀ (x0 : Nat) (x1 : Nat) (x2 : Int) (x3 : Int) (x4 : Nat) (x5 : Int) (x6 : BitVec 64) (x8 : BitVec 64) (x10 : Int) (S : MS), c20 x0 x1 x2 x3 x4 x5 x6 x8 x10 S → Jw FinM RX2 cX2_fillRising 13 none [] yX2_fillRising (d + 1) S0 S 20 [(0, vA x0), (1, vA x1), (2, vI x2), (3, vI x3), (4, vA x4), (5, vI x5), (6, vL x6), (8, vL x8), (10, vI x10)] [] Q) (x0 : Nat) (x1 : Nat) (x2 : Int) (x3 : Int) (x4 : Nat) (x5 : Int) (x6 : BitVec 64) (x8 : BitVec 64) (x10 : Int) (S : MS) (h : VX2_fillRising_73 d c3 c20 Q x0 x1 x2 x3 x4 x5 x6 x8 x10 S) : Jw FinM RX2 cX2_fillRising 13 none [] yX2_fillRising (d + 1) S0 S 73 [(0, vA x0), (1, vA x1), (2, vI x2), (3, vI x3), (4, vA x4), (5, vI x5), (6, vL x6), (8, vL x8), (10, vI x10)] [] Q :=
  j_iinc 8 (lv2 := [(10, vI (x10 + 1)), (0, vA x0), (1, vA x1), (2, vI x2), (3, vI x3), (4, vA x4), (5, vI x5), (6, vL x6), (8, vL x8)]) dX2_fillRising_73 rfl (by decide) rfl (j_goto (tgt := 20) dX2_fillRising_76 (by decide) (j_sub [1, 2, 3, 4, 5, 6, 7, 8, 0] rfl (hc20 _ _ _ _ _ _ _ _ _ _ h)))
def VX2_fillRising_119 (d : Nat) (c3 : Nat → Nat → Int → Int → Nat → Int → MS → Prop) (Q : Out → MS → Prop) (x0 : Nat) (x1 : Nat) (x2 : Int) (x3 : Int) (x4 : Nat) (x5 : Int) (t0 : BitVec 64) (t1 : Int) (t2 : Nat) (S : MS) : Prop :=
  (S.K t2 = 14 ∧ 0 ≤ t1 ∧ t1 < S.N t2) ∧ (c3 x0 x1 x2 x3 x4 (x5 + 1) (S.setJ t2 (t1).toNat t0))
theorem JX2_fillRising_119 {d : Nat} {c3 : Nat → Nat → Int → Int → Nat → Int → MS → Prop} {S0 : MS} {Q : Out → MS → Prop} (hc3 : ∀ (x0 : Nat) (x1 : Nat) (x2 : Int) (x3 : Int) (x4 : Nat) (x5 : Int) (S : MS), c3 x0 x1 x2 x3 x4 x5 S → Jw FinM RX2 cX2_fillRising 13 none [] yX2_fillRising (d + 1) S0 S 3 [(0, vA x0), (1, vA x1), (2, vI x2), (3, vI x3), (4, vA x4), (5, vI x5)] [] Q) (x0 : Nat) (x1 : Nat) (x2 : Int) (x3 : Int) (x4 : Nat) (x5 : Int) (t0 : BitVec 64) (t1 : Int) (t2 : Nat) (S : MS) (h : VX2_fillRising_119 d c3 Q x0 x1 x2 x3 x4 x5 t0 t1 t2 S) : Jw FinM RX2 cX2_fillRising 13 none [] yX2_fillRising (d + 1) S0 S 119 [(0, vA x0), (1, vA x1), (2, vI x2), (3, vI x3), (4, vA x4), (5, vI x5)] [vL t0, vI t1, vA t2] Q :=
  j_last dX2_fillRising_119 h (fun h => j_iinc 5 (lv2 := [(5, vI (x5 + 1)), (0, vA x0), (1, vA x1), (2, vI x2), (3, vI x3), (4, vA x4)]) dX2_fillRising_120 rfl (by decide) rfl (j_goto (tgt := 3) dX2_fillRising_123 (by decide) (j_sub [1, 2, 3, 4, 5, 0] rfl (hc3 _ _ _ _ _ _ _ h))))
def VX2_fillRising_20 (d : Nat) (c3 : Nat → Nat → Int → Int → Nat → Int → MS → Prop) (Q : Out → MS → Prop) : Nat → Nat → Nat → Int → Int → Nat → Int → BitVec 64 → BitVec 64 → Int → MS → Prop
  | 0, _, _, _, _, _, _, _, _, _, _ => False
  | n + 1, x0, x1, x2, x3, x4, x5, x6, x8, x10, S => S.K x0 = 2 ∧ ((R32 x10 ∧ R32 (S.I x0 5)) ∧ (((S.I x0 5) ≤ x10) → S.K x0 = 2 ∧ (Mw hX10_aboveRiser yX10_aboveRiser d [vI (S.I x0 4)] S (oI (fun r1 S1 => R32 r1 ∧ (¬ (r1 = 0) → VX2_fillRising_119 d c3 Q x0 x1 x2 x3 x4 x5 (x6 &&& (x8 ^^^ (18446744073709551615#64))) x5 x4 S1) ∧ ((r1 = 0) → S1.K x1 = 0 ∧ ∃ b2, S1.R x1 3 = some b2 ∧ ((S1.K b2 = 14 ∧ 0 ≤ x5 ∧ x5 < S1.N b2) ∧ (VX2_fillRising_119 d c3 Q x0 x1 x2 x3 x4 x5 ((S1.J b2 (x5).toNat) &&& (x6 ^^^ (18446744073709551615#64))) x5 x4 S1))))))) ∧ (¬ ((S.I x0 5) ≤ x10) → (R32 x10 ∧ R32 x3) ∧ ((x10 = x3) → VX2_fillRising_73 d c3 (VX2_fillRising_20 d c3 Q n) Q x0 x1 x2 x3 x4 x5 x6 x8 x10 S) ∧ (¬ (x10 = x3) → Mw hX10_holds yX10_holds d [vI x2, vI x10] S (oI (fun r3 S3 => R32 r3 ∧ ((r3 = 0) → VX2_fillRising_73 d c3 (VX2_fillRising_20 d c3 Q n) Q x0 x1 x2 x3 x4 x5 x6 x8 x10 S3) ∧ (¬ (r3 = 0) → S3.K x1 = 0 ∧ Mw hX0_heavierThan yX0_heavierThan d [vA x1, vI x10, vI x3] S3 (oA (fun r4 S4 => (S4.K r4 = 14 ∧ 0 ≤ x5 ∧ x5 < S4.N r4) ∧ (VX2_fillRising_73 d c3 (VX2_fillRising_20 d c3 Q n) Q x0 x1 x2 x3 x4 x5 (x6 ||| (S4.J r4 (x5).toNat)) (x8 ||| (x6 &&& (S4.J r4 (x5).toNat))) x10 S4)))))))))
theorem JX2_fillRising_20 {d : Nat} {c3 : Nat → Nat → Int → Int → Nat → Int → MS → Prop} {S0 : MS} {Q : Out → MS → Prop} (hc3 : ∀ (x0 : Nat) (x1 : Nat) (x2 : Int) (x3 : Int) (x4 : Nat) (x5 : Int) (S : MS), c3 x0 x1 x2 x3 x4 x5 S → Jw FinM RX2 cX2_fillRising 13 none [] yX2_fillRising (d + 1) S0 S 3 [(0, vA x0), (1, vA x1), (2, vI x2), (3, vI x3), (4, vA x4), (5, vI x5)] [] Q) : ∀ (n : Nat) (x0 : Nat) (x1 : Nat) (x2 : Int) (x3 : Int) (x4 : Nat) (x5 : Int) (x6 : BitVec 64) (x8 : BitVec 64) (x10 : Int) (S : MS), VX2_fillRising_20 d c3 Q n x0 x1 x2 x3 x4 x5 x6 x8 x10 S → Jw FinM RX2 cX2_fillRising 13 none [] yX2_fillRising (d + 1) S0 S 20 [(0, vA x0), (1, vA x1), (2, vI x2), (3, vI x3), (4, vA x4), (5, vI x5), (6, vL x6), (8, vL x8), (10, vI x10)] [] Q := by
  intro n
  induction n with
  | zero => intro x0 x1 x2 x3 x4 x5 x6 x8 x10 S h; exact h.elim
  | succ n ih =>
    intro x0 x1 x2 x3 x4 x5 x6 x8 x10 S h
    exact j_iload 8 dX2_fillRising_20 rfl (j_aload_n 0 dX2_fillRising_22 rfl (j_getI 2 5 f_RX2_18 dX2_fillRising_23 h (fun h => j_icmp_ge (tgt := 79) dX2_fillRising_26 (by decide) h (fun h => j_aload 4 dX2_fillRising_79 rfl (j_iload 5 dX2_fillRising_81 rfl (j_aload_n 0 dX2_fillRising_83 rfl (j_getI 2 4 f_RX2_21 dX2_fillRising_84 h (fun h => j_callSN (rest := [vI x5, vA x4]) [vI (S.I x0 4)] k_RX2_75 w_2_203 rfl rfl (Nat.le_of_ble_eq_true rfl) dX2_fillRising_87 h (kI (fun r1 S1 h => j_if_ne (tgt := 110) dX2_fillRising_90 (by decide) h (fun h => j_lload 6 dX2_fillRising_110 rfl (j_lload 7 dX2_fillRising_112 rfl (j_ldc2 dX2_fillRising_114 w_2_205 rfl (j_lxor dX2_fillRising_117 (j_land dX2_fillRising_118 (j_sub [0, 1, 2, 3, 4, 5] rfl (JX2_fillRising_119 hc3 _ _ _ _ _ _ _ _ _ _ h))))))) (fun h => j_aload_n 1 dX2_fillRising_93 rfl (j_getR 0 3 f_RX2_78 dX2_fillRising_94 h (fun b2 h => j_iload 5 dX2_fillRising_97 rfl (j_lald dX2_fillRising_99 h (fun h => j_lload 6 dX2_fillRising_100 rfl (j_ldc2 dX2_fillRising_102 w_2_205 rfl (j_lxor dX2_fillRising_105 (j_land dX2_fillRising_106 (j_goto (tgt := 119) dX2_fillRising_107 (by decide) (j_sub [0, 1, 2, 3, 4, 5] rfl (JX2_fillRising_119 hc3 _ _ _ _ _ _ _ _ _ _ h)))))))))))))))))) (fun h => j_iload 8 dX2_fillRising_29 rfl (j_iload_n 3 dX2_fillRising_31 rfl (j_icmp_eq (tgt := 73) dX2_fillRising_32 (by decide) h (fun h => JX2_fillRising_73 hc3 ih _ _ _ _ _ _ _ _ _ _ h) (fun h => j_iload_n 2 dX2_fillRising_35 rfl (j_iload 8 dX2_fillRising_36 rfl (j_callSN (rest := []) [vI x2, vI x10] k_RX2_61 w_2_192 rfl rfl (Nat.le_of_ble_eq_true rfl) dX2_fillRising_38 h (kI (fun r3 S3 h => j_if_eq (tgt := 73) dX2_fillRising_41 (by decide) h (fun h => JX2_fillRising_73 hc3 ih _ _ _ _ _ _ _ _ _ _ h) (fun h => j_aload_n 1 dX2_fillRising_44 rfl (j_iload 8 dX2_fillRising_45 rfl (j_iload_n 3 dX2_fillRising_47 rfl (j_callV (rest := []) 0 [vI x10, vI x3] k_RX2_69 ⟨w_2_199, w_2_200⟩ ⟨_, _, rfl⟩ (by decide) rfl rfl (Nat.le_of_ble_eq_true rfl) dX2_fillRising_48 h (kA (fun r4 S4 h => j_iload 5 dX2_fillRising_51 rfl (j_lald dX2_fillRising_53 h (fun h => j_lstore (lv2 := [(11, vL (S4.J r4 (x5).toNat)), (0, vA x0), (1, vA x1), (2, vI x2), (3, vI x3), (4, vA x4), (5, vI x5), (6, vL x6), (8, vL x8), (10, vI x10)]) dX2_fillRising_54 (by decide) rfl (j_lload 8 dX2_fillRising_56 rfl (j_lload 7 dX2_fillRising_58 rfl (j_lload 0 dX2_fillRising_60 rfl (j_land dX2_fillRising_62 (j_lor dX2_fillRising_63 (j_lstore (lv2 := [(8, vL (x8 ||| (x6 &&& (S4.J r4 (x5).toNat)))), (11, vL (S4.J r4 (x5).toNat)), (0, vA x0), (1, vA x1), (2, vI x2), (3, vI x3), (4, vA x4), (5, vI x5), (6, vL x6), (10, vI x10)]) dX2_fillRising_64 (by decide) rfl (j_lload 8 dX2_fillRising_66 rfl (j_lload 1 dX2_fillRising_68 rfl (j_lor dX2_fillRising_70 (j_lstore (lv2 := [(6, vL (x6 ||| (S4.J r4 (x5).toNat))), (8, vL (x8 ||| (x6 &&& (S4.J r4 (x5).toNat)))), (11, vL (S4.J r4 (x5).toNat)), (0, vA x0), (1, vA x1), (2, vI x2), (3, vI x3), (4, vA x4), (5, vI x5), (10, vI x10)]) dX2_fillRising_71 (by decide) rfl (j_sub [3, 4, 5, 6, 7, 8, 0, 1, 9] rfl (JX2_fillRising_73 hc3 ih _ _ _ _ _ _ _ _ _ _ h)))))))))))))))) (fun _ _ h => h.elim))))))))))))))))
def VX2_fillRising_3 (d : Nat) (Q : Out → MS → Prop) : Nat → Nat → Nat → Int → Int → Nat → Int → MS → Prop
  | 0, _, _, _, _, _, _, _ => False
  | n + 1, x0, x1, x2, x3, x4, x5, S => (12 ≤ S.K x4 ∧ S.K x4 < 21) ∧ ((R32 x5 ∧ R32 ((S.N x4 : Int))) ∧ ((((S.N x4 : Int)) ≤ x5) → Q (.inl none) S) ∧ (¬ (((S.N x4 : Int)) ≤ x5) → ∃ m, VX2_fillRising_20 d (VX2_fillRising_3 d Q n) Q m x0 x1 x2 x3 x4 x5 (0#64) (0#64) 0 S))
theorem JX2_fillRising_3 {d : Nat} {S0 : MS} {Q : Out → MS → Prop} : ∀ (n : Nat) (x0 : Nat) (x1 : Nat) (x2 : Int) (x3 : Int) (x4 : Nat) (x5 : Int) (S : MS), VX2_fillRising_3 d Q n x0 x1 x2 x3 x4 x5 S → Jw FinM RX2 cX2_fillRising 13 none [] yX2_fillRising (d + 1) S0 S 3 [(0, vA x0), (1, vA x1), (2, vI x2), (3, vI x3), (4, vA x4), (5, vI x5)] [] Q := by
  intro n
  induction n with
  | zero => intro x0 x1 x2 x3 x4 x5 S h; exact h.elim
  | succ n ih =>
    intro x0 x1 x2 x3 x4 x5 S h
    exact j_iload 5 dX2_fillRising_3 rfl (j_aload 4 dX2_fillRising_5 rfl (j_alen dX2_fillRising_7 h (fun h => j_icmp_ge (tgt := 126) dX2_fillRising_8 (by decide) h (fun h => j_vret rfl dX2_fillRising_126 h) (fun h => j_lconst dX2_fillRising_11 rfl (j_lstore (lv2 := [(6, vL (0#64)), (0, vA x0), (1, vA x1), (2, vI x2), (3, vI x3), (4, vA x4), (5, vI x5)]) dX2_fillRising_12 (by decide) rfl (j_lconst dX2_fillRising_14 rfl (j_lstore (lv2 := [(8, vL (0#64)), (6, vL (0#64)), (0, vA x0), (1, vA x1), (2, vI x2), (3, vI x3), (4, vA x4), (5, vI x5)]) dX2_fillRising_15 (by decide) rfl (j_iconst dX2_fillRising_17 (j_istore (lv2 := [(10, vI 0), (8, vL (0#64)), (6, vL (0#64)), (0, vA x0), (1, vA x1), (2, vI x2), (3, vI x3), (4, vA x4), (5, vI x5)]) dX2_fillRising_18 (by decide) rfl (Exists.elim h (fun m h => j_sub [3, 4, 5, 6, 7, 8, 2, 1, 0] rfl (JX2_fillRising_20 ih m _ _ _ _ _ _ _ _ _ _ h))))))))))))
def VX2_fillRising_0 (d : Nat) (Q : Out → MS → Prop) (x0 : Nat) (x1 : Nat) (x2 : Int) (x3 : Int) (x4 : Nat) (S : MS) : Prop :=
  ∃ m, VX2_fillRising_3 d Q m x0 x1 x2 x3 x4 0 S
theorem JX2_fillRising_0 {d : Nat} {S0 : MS} {Q : Out → MS → Prop} (x0 : Nat) (x1 : Nat) (x2 : Int) (x3 : Int) (x4 : Nat) (S : MS) (h : VX2_fillRising_0 d Q x0 x1 x2 x3 x4 S) : Jw FinM RX2 cX2_fillRising 13 none [] yX2_fillRising (d + 1) S0 S 0 [(0, vA x0), (1, vA x1), (2, vI x2), (3, vI x3), (4, vA x4)] [] Q :=
  j_iconst dX2_fillRising_0 (j_istore (lv2 := [(5, vI 0), (0, vA x0), (1, vA x1), (2, vI x2), (3, vI x3), (4, vA x4)]) dX2_fillRising_1 (by decide) rfl (Exists.elim h (fun m h => j_sub [1, 2, 3, 4, 5, 0] rfl (JX2_fillRising_3 m _ _ _ _ _ _ _ h))))
theorem MX2_fillRising {d : Nat} {x0 : Nat} {x1 : Nat} {x2 : Int} {x3 : Int} {x4 : Nat} {S : MS} {Q : Out → MS → Prop} (h : VX2_fillRising_0 d Q x0 x1 x2 x3 x4 S) : Mw hX2_fillRising yX2_fillRising (d + 1) [vA x0, vA x1, vI x2, vI x3, vA x4] S Q := Mw.ofJ (by decide) (Nat.le_of_ble_eq_true rfl) (JX2_fillRising_0 _ _ _ _ _ S h)
theorem dX2_indexOf_0 : decode cX2_indexOf 0 = .ok (.iload_n 1, 1) := by decide +kernel
theorem dX2_indexOf_1 : decode cX2_indexOf 1 = .ok (.ifCond .lt 21, 3) := by decide +kernel
theorem dX2_indexOf_4 : decode cX2_indexOf 4 = .ok (.iload_n 1, 1) := by decide +kernel
theorem dX2_indexOf_5 : decode cX2_indexOf 5 = .ok (.aload_n 0, 1) := by decide +kernel
theorem dX2_indexOf_6 : decode cX2_indexOf 6 = .ok (.getfield 40, 3) := by decide +kernel
theorem dX2_indexOf_9 : decode cX2_indexOf 9 = .ok (.arraylength, 1) := by decide +kernel
theorem dX2_indexOf_10 : decode cX2_indexOf 10 = .ok (.if_icmp .ge 12, 3) := by decide +kernel
theorem dX2_indexOf_13 : decode cX2_indexOf 13 = .ok (.aload_n 0, 1) := by decide +kernel
theorem dX2_indexOf_14 : decode cX2_indexOf 14 = .ok (.getfield 40, 3) := by decide +kernel
theorem dX2_indexOf_17 : decode cX2_indexOf 17 = .ok (.iload_n 1, 1) := by decide +kernel
theorem dX2_indexOf_18 : decode cX2_indexOf 18 = .ok (.iaload, 1) := by decide +kernel
theorem dX2_indexOf_19 : decode cX2_indexOf 19 = .ok (.goto 4, 3) := by decide +kernel
theorem dX2_indexOf_22 : decode cX2_indexOf 22 = .ok (.iconst (-1), 1) := by decide +kernel
theorem dX2_indexOf_23 : decode cX2_indexOf 23 = .ok (.ireturn, 1) := by decide +kernel
def VX2_indexOf_0 (d : Nat) (Q : Out → MS → Prop) (x0 : Nat) (x1 : Int) (S : MS) : Prop :=
  R32 x1 ∧ ((x1 < 0) → Q (.inl (some (vI ((-1))))) S) ∧ (¬ (x1 < 0) → S.K x0 = 2 ∧ ∃ b1, S.R x0 6 = some b1 ∧ ((12 ≤ S.K b1 ∧ S.K b1 < 21) ∧ ((R32 x1 ∧ R32 ((S.N b1 : Int))) ∧ ((((S.N b1 : Int)) ≤ x1) → Q (.inl (some (vI ((-1))))) S) ∧ (¬ (((S.N b1 : Int)) ≤ x1) → S.K x0 = 2 ∧ ∃ b2, S.R x0 6 = some b2 ∧ ((S.K b2 = 13 ∧ 0 ≤ x1 ∧ x1 < S.N b2) ∧ (Q (.inl (some (vI (S.I b2 (x1).toNat)))) S))))))
theorem JX2_indexOf_0 {d : Nat} {S0 : MS} {Q : Out → MS → Prop} (x0 : Nat) (x1 : Int) (S : MS) (h : VX2_indexOf_0 d Q x0 x1 S) : Jw FinM RX2 cX2_indexOf 2 (some .int) [] yX2_indexOf (d + 1) S0 S 0 [(0, vA x0), (1, vI x1)] [] Q :=
  j_iload_n 1 dX2_indexOf_0 rfl (j_if_lt (tgt := 22) dX2_indexOf_1 (by decide) h (fun h => j_iconst dX2_indexOf_22 (j_iret rfl dX2_indexOf_23 h)) (fun h => j_iload_n 1 dX2_indexOf_4 rfl (j_aload_n 0 dX2_indexOf_5 rfl (j_getR 2 6 f_RX2_40 dX2_indexOf_6 h (fun b1 h => j_alen dX2_indexOf_9 h (fun h => j_icmp_ge (tgt := 22) dX2_indexOf_10 (by decide) h (fun h => j_iconst dX2_indexOf_22 (j_iret rfl dX2_indexOf_23 h)) (fun h => j_aload_n 0 dX2_indexOf_13 rfl (j_getR 2 6 f_RX2_40 dX2_indexOf_14 h (fun b2 h => j_iload_n 1 dX2_indexOf_17 rfl (j_iald dX2_indexOf_18 h (fun h => j_goto (tgt := 23) dX2_indexOf_19 (by decide) (j_iret rfl dX2_indexOf_23 h))))))))))))
theorem MX2_indexOf {d : Nat} {x0 : Nat} {x1 : Int} {S : MS} {Q : Out → MS → Prop} (h : VX2_indexOf_0 d Q x0 x1 S) : Mw hX2_indexOf yX2_indexOf (d + 1) [vA x0, vI x1] S Q := Mw.ofJ (by decide) (Nat.le_of_ble_eq_true rfl) (JX2_indexOf_0 _ _ S h)
theorem dX2_setAt_0 : decode cX2_setAt 0 = .ok (.iload_n 1, 1) := by decide +kernel
theorem dX2_setAt_1 : decode cX2_setAt 1 = .ok (.ifCond .lt 21, 3) := by decide +kernel
theorem dX2_setAt_4 : decode cX2_setAt 4 = .ok (.iload_n 1, 1) := by decide +kernel
theorem dX2_setAt_5 : decode cX2_setAt 5 = .ok (.aload_n 0, 1) := by decide +kernel
theorem dX2_setAt_6 : decode cX2_setAt 6 = .ok (.getfield 36, 3) := by decide +kernel
theorem dX2_setAt_9 : decode cX2_setAt 9 = .ok (.arraylength, 1) := by decide +kernel
theorem dX2_setAt_10 : decode cX2_setAt 10 = .ok (.if_icmp .ge 12, 3) := by decide +kernel
theorem dX2_setAt_13 : decode cX2_setAt 13 = .ok (.aload_n 0, 1) := by decide +kernel
theorem dX2_setAt_14 : decode cX2_setAt 14 = .ok (.getfield 36, 3) := by decide +kernel
theorem dX2_setAt_17 : decode cX2_setAt 17 = .ok (.iload_n 1, 1) := by decide +kernel
theorem dX2_setAt_18 : decode cX2_setAt 18 = .ok (.iaload, 1) := by decide +kernel
theorem dX2_setAt_19 : decode cX2_setAt 19 = .ok (.goto 4, 3) := by decide +kernel
theorem dX2_setAt_22 : decode cX2_setAt 22 = .ok (.iconst (-1), 1) := by decide +kernel
theorem dX2_setAt_23 : decode cX2_setAt 23 = .ok (.ireturn, 1) := by decide +kernel
def VX2_setAt_0 (d : Nat) (Q : Out → MS → Prop) (x0 : Nat) (x1 : Int) (S : MS) : Prop :=
  R32 x1 ∧ ((x1 < 0) → Q (.inl (some (vI ((-1))))) S) ∧ (¬ (x1 < 0) → S.K x0 = 2 ∧ ∃ b1, S.R x0 1 = some b1 ∧ ((12 ≤ S.K b1 ∧ S.K b1 < 21) ∧ ((R32 x1 ∧ R32 ((S.N b1 : Int))) ∧ ((((S.N b1 : Int)) ≤ x1) → Q (.inl (some (vI ((-1))))) S) ∧ (¬ (((S.N b1 : Int)) ≤ x1) → S.K x0 = 2 ∧ ∃ b2, S.R x0 1 = some b2 ∧ ((S.K b2 = 13 ∧ 0 ≤ x1 ∧ x1 < S.N b2) ∧ (Q (.inl (some (vI (S.I b2 (x1).toNat)))) S))))))
theorem JX2_setAt_0 {d : Nat} {S0 : MS} {Q : Out → MS → Prop} (x0 : Nat) (x1 : Int) (S : MS) (h : VX2_setAt_0 d Q x0 x1 S) : Jw FinM RX2 cX2_setAt 2 (some .int) [] yX2_setAt (d + 1) S0 S 0 [(0, vA x0), (1, vI x1)] [] Q :=
  j_iload_n 1 dX2_setAt_0 rfl (j_if_lt (tgt := 22) dX2_setAt_1 (by decide) h (fun h => j_iconst dX2_setAt_22 (j_iret rfl dX2_setAt_23 h)) (fun h => j_iload_n 1 dX2_setAt_4 rfl (j_aload_n 0 dX2_setAt_5 rfl (j_getR 2 1 f_RX2_36 dX2_setAt_6 h (fun b1 h => j_alen dX2_setAt_9 h (fun h => j_icmp_ge (tgt := 22) dX2_setAt_10 (by decide) h (fun h => j_iconst dX2_setAt_22 (j_iret rfl dX2_setAt_23 h)) (fun h => j_aload_n 0 dX2_setAt_13 rfl (j_getR 2 1 f_RX2_36 dX2_setAt_14 h (fun b2 h => j_iload_n 1 dX2_setAt_17 rfl (j_iald dX2_setAt_18 h (fun h => j_goto (tgt := 23) dX2_setAt_19 (by decide) (j_iret rfl dX2_setAt_23 h))))))))))))
theorem MX2_setAt {d : Nat} {x0 : Nat} {x1 : Int} {S : MS} {Q : Out → MS → Prop} (h : VX2_setAt_0 d Q x0 x1 S) : Mw hX2_setAt yX2_setAt (d + 1) [vA x0, vI x1] S Q := Mw.ofJ (by decide) (Nat.le_of_ble_eq_true rfl) (JX2_setAt_0 _ _ S h)
theorem dX2_rising_0 : decode cX2_rising 0 = .ok (.aload_n 0, 1) := by decide +kernel
theorem dX2_rising_1 : decode cX2_rising 1 = .ok (.iload_n 1, 1) := by decide +kernel
theorem dX2_rising_2 : decode cX2_rising 2 = .ok (.invokevirtual 83, 3) := by decide +kernel
theorem dX2_rising_5 : decode cX2_rising 5 = .ok (.istore_n 3, 1) := by decide +kernel
theorem dX2_rising_6 : decode cX2_rising 6 = .ok (.iload_n 3, 1) := by decide +kernel
theorem dX2_rising_7 : decode cX2_rising 7 = .ok (.iconst (-1), 1) := by decide +kernel
theorem dX2_rising_8 : decode cX2_rising 8 = .ok (.if_icmp .ne 10, 3) := by decide +kernel
theorem dX2_rising_11 : decode cX2_rising 11 = .ok (.aload_n 0, 1) := by decide +kernel
theorem dX2_rising_12 : decode cX2_rising 12 = .ok (.getfield 48, 3) := by decide +kernel
theorem dX2_rising_15 : decode cX2_rising 15 = .ok (.goto 18, 3) := by decide +kernel
theorem dX2_rising_18 : decode cX2_rising 18 = .ok (.aload_n 0, 1) := by decide +kernel
theorem dX2_rising_19 : decode cX2_rising 19 = .ok (.iload_n 3, 1) := by decide +kernel
theorem dX2_rising_20 : decode cX2_rising 20 = .ok (.iload_n 1, 1) := by decide +kernel
theorem dX2_rising_21 : decode cX2_rising 21 = .ok (.iconst 1, 1) := by decide +kernel
theorem dX2_rising_22 : decode cX2_rising 22 = .ok (.iload_n 2, 1) := by decide +kernel
theorem dX2_rising_23 : decode cX2_rising 23 = .ok (.ishl, 1) := by decide +kernel
theorem dX2_rising_24 : decode cX2_rising 24 = .ok (.iconst 1, 1) := by decide +kernel
theorem dX2_rising_25 : decode cX2_rising 25 = .ok (.isub, 1) := by decide +kernel
theorem dX2_rising_26 : decode cX2_rising 26 = .ok (.iand, 1) := by decide +kernel
theorem dX2_rising_27 : decode cX2_rising 27 = .ok (.invokestatic 31, 3) := by decide +kernel
theorem dX2_rising_30 : decode cX2_rising 30 = .ok (.invokevirtual 86, 3) := by decide +kernel
theorem dX2_rising_33 : decode cX2_rising 33 = .ok (.areturn, 1) := by decide +kernel
def VX2_rising_0 (d : Nat) (Q : Out → MS → Prop) (x0 : Nat) (x1 : Int) (x2 : Int) (S : MS) : Prop :=
  S.K x0 = 2 ∧ Mw hX2_indexOf yX2_indexOf d [vA x0, vI x1] S (oI (fun r1 S1 => (R32 r1 ∧ R32 ((-1) : Int)) ∧ (¬ (r1 = ((-1) : Int)) → Mw hJ6_bitCount_0f7a4 yJ6_bitCount_0f7a4 d [vI (iAnd x1 ((iShl 1 x2) - 1))] S1 (oI (fun r2 S2 => S2.K x0 = 2 ∧ Mw hX2_risingAt yX2_risingAt d [vA x0, vI r1, vI r2] S2 (oA (fun r3 S3 => Q (.inl (some (vA r3))) S3))))) ∧ ((r1 = ((-1) : Int)) → S1.K x0 = 2 ∧ ∃ b4, S1.R x0 8 = some b4 ∧ (Q (.inl (some (vA b4))) S1))))
theorem JX2_rising_0 {d : Nat} {S0 : MS} {Q : Out → MS → Prop} (x0 : Nat) (x1 : Int) (x2 : Int) (S : MS) (h : VX2_rising_0 d Q x0 x1 x2 S) : Jw FinM RX2 cX2_rising 4 (some (.array .long)) [] yX2_rising (d + 1) S0 S 0 [(0, vA x0), (1, vI x1), (2, vI x2)] [] Q :=
  j_aload_n 0 dX2_rising_0 rfl (j_iload_n 1 dX2_rising_1 rfl (j_callV (rest := []) 2 [vI x1] k_RX2_83 ⟨w_2_229, w_2_230⟩ ⟨_, _, rfl⟩ (by decide) rfl rfl (Nat.le_of_ble_eq_true rfl) dX2_rising_2 h (kI (fun r1 S1 h => j_istore_n (lv2 := [(3, vI r1), (0, vA x0), (1, vI x1), (2, vI x2)]) dX2_rising_5 (by decide) rfl (j_iload_n 0 dX2_rising_6 rfl (j_iconst dX2_rising_7 (j_icmp_ne (tgt := 18) dX2_rising_8 (by decide) h (fun h => j_aload_n 1 dX2_rising_18 rfl (j_iload_n 0 dX2_rising_19 rfl (j_iload_n 2 dX2_rising_20 rfl (j_iconst dX2_rising_21 (j_iload_n 3 dX2_rising_22 rfl (j_ishl dX2_rising_23 (j_iconst dX2_rising_24 (j_isub dX2_rising_25 (j_iand dX2_rising_26 (j_callS (rest := [vI r1, vA x0]) [vI (iAnd x1 ((iShl 1 x2) - 1))] k_RX2_31 w_2_86 rfl rfl (Nat.le_of_ble_eq_true rfl) dX2_rising_27 h (kI (fun r2 S2 h => j_callV (rest := []) 2 [vI r1, vI r2] k_RX2_86 ⟨w_2_233, w_2_234⟩ ⟨_, _, rfl⟩ (by decide) rfl rfl (Nat.le_of_ble_eq_true rfl) dX2_rising_30 h (kA (fun r3 S3 h => j_aret rfl (by first | exact Or.inl ⟨_, rfl⟩ | exact Or.inr ⟨_, rfl⟩) dX2_rising_33 h)) (fun _ _ h => h.elim))) (fun _ _ h => h.elim))))))))))) (fun h => j_aload_n 1 dX2_rising_11 rfl (j_getR 2 8 f_RX2_48 dX2_rising_12 h (fun b4 h => j_goto (tgt := 33) dX2_rising_15 (by decide) (j_aret rfl (by first | exact Or.inl ⟨_, rfl⟩ | exact Or.inr ⟨_, rfl⟩) dX2_rising_33 h))))))))) (fun _ _ h => h.elim)))
theorem MX2_rising {d : Nat} {x0 : Nat} {x1 : Int} {x2 : Int} {S : MS} {Q : Out → MS → Prop} (h : VX2_rising_0 d Q x0 x1 x2 S) : Mw hX2_rising yX2_rising (d + 1) [vA x0, vI x1, vI x2] S Q := Mw.ofJ (by decide) (Nat.le_of_ble_eq_true rfl) (JX2_rising_0 _ _ _ S h)
theorem dX2_risingAt_0 : decode cX2_risingAt 0 = .ok (.iload_n 1, 1) := by decide +kernel
theorem dX2_risingAt_1 : decode cX2_risingAt 1 = .ok (.aload_n 0, 1) := by decide +kernel
theorem dX2_risingAt_2 : decode cX2_risingAt 2 = .ok (.getfield 28, 3) := by decide +kernel
theorem dX2_risingAt_5 : decode cX2_risingAt 5 = .ok (.imul, 1) := by decide +kernel
theorem dX2_risingAt_6 : decode cX2_risingAt 6 = .ok (.iload_n 2, 1) := by decide +kernel
theorem dX2_risingAt_7 : decode cX2_risingAt 7 = .ok (.iadd, 1) := by decide +kernel
theorem dX2_risingAt_8 : decode cX2_risingAt 8 = .ok (.istore_n 3, 1) := by decide +kernel
theorem dX2_risingAt_9 : decode cX2_risingAt 9 = .ok (.iload_n 3, 1) := by decide +kernel
theorem dX2_risingAt_10 : decode cX2_risingAt 10 = .ok (.ifCond .lt 21, 3) := by decide +kernel
theorem dX2_risingAt_13 : decode cX2_risingAt 13 = .ok (.iload_n 3, 1) := by decide +kernel
theorem dX2_risingAt_14 : decode cX2_risingAt 14 = .ok (.aload_n 0, 1) := by decide +kernel
theorem dX2_risingAt_15 : decode cX2_risingAt 15 = .ok (.getfield 45, 3) := by decide +kernel
theorem dX2_risingAt_18 : decode cX2_risingAt 18 = .ok (.arraylength, 1) := by decide +kernel
theorem dX2_risingAt_19 : decode cX2_risingAt 19 = .ok (.if_icmp .ge 12, 3) := by decide +kernel
theorem dX2_risingAt_22 : decode cX2_risingAt 22 = .ok (.aload_n 0, 1) := by decide +kernel
theorem dX2_risingAt_23 : decode cX2_risingAt 23 = .ok (.getfield 45, 3) := by decide +kernel
theorem dX2_risingAt_26 : decode cX2_risingAt 26 = .ok (.iload_n 3, 1) := by decide +kernel
theorem dX2_risingAt_27 : decode cX2_risingAt 27 = .ok (.aaload, 1) := by decide +kernel
theorem dX2_risingAt_28 : decode cX2_risingAt 28 = .ok (.goto 7, 3) := by decide +kernel
theorem dX2_risingAt_31 : decode cX2_risingAt 31 = .ok (.aload_n 0, 1) := by decide +kernel
theorem dX2_risingAt_32 : decode cX2_risingAt 32 = .ok (.getfield 48, 3) := by decide +kernel
theorem dX2_risingAt_35 : decode cX2_risingAt 35 = .ok (.areturn, 1) := by decide +kernel
def VX2_risingAt_31 (d : Nat) (Q : Out → MS → Prop) (x0 : Nat) (S : MS) : Prop :=
  S.K x0 = 2 ∧ ∃ b1, S.R x0 8 = some b1 ∧ (Q (.inl (some (vA b1))) S)
theorem JX2_risingAt_31 {d : Nat} {S0 : MS} {Q : Out → MS → Prop} (x0 : Nat) (S : MS) (h : VX2_risingAt_31 d Q x0 S) : Jw FinM RX2 cX2_risingAt 4 (some (.array .long)) [] yX2_risingAt (d + 1) S0 S 31 [(0, vA x0)] [] Q :=
  j_aload_n 0 dX2_risingAt_31 rfl (j_getR 2 8 f_RX2_48 dX2_risingAt_32 h (fun b1 h => j_aret rfl (by first | exact Or.inl ⟨_, rfl⟩ | exact Or.inr ⟨_, rfl⟩) dX2_risingAt_35 h))
def VX2_risingAt_0 (d : Nat) (Q : Out → MS → Prop) (x0 : Nat) (x1 : Int) (x2 : Int) (S : MS) : Prop :=
  S.K x0 = 2 ∧ (R32 ((x1 * (S.I x0 0)) + x2) ∧ ((((x1 * (S.I x0 0)) + x2) < 0) → VX2_risingAt_31 d Q x0 S) ∧ (¬ (((x1 * (S.I x0 0)) + x2) < 0) → S.K x0 = 2 ∧ ∃ b1, S.R x0 7 = some b1 ∧ ((12 ≤ S.K b1 ∧ S.K b1 < 21) ∧ ((R32 ((x1 * (S.I x0 0)) + x2) ∧ R32 ((S.N b1 : Int))) ∧ ((((S.N b1 : Int)) ≤ ((x1 * (S.I x0 0)) + x2)) → VX2_risingAt_31 d Q x0 S) ∧ (¬ (((S.N b1 : Int)) ≤ ((x1 * (S.I x0 0)) + x2)) → S.K x0 = 2 ∧ ∃ b2, S.R x0 7 = some b2 ∧ ((S.K b2 = 20 ∧ (17 ≤ 20 ∧ 20 < 21) ∧ 0 ≤ ((x1 * (S.I x0 0)) + x2) ∧ ((x1 * (S.I x0 0)) + x2) < S.N b2) ∧ ∃ b3, S.R b2 (((x1 * (S.I x0 0)) + x2)).toNat = some b3 ∧ (Q (.inl (some (vA b3))) S)))))))
theorem JX2_risingAt_0 {d : Nat} {S0 : MS} {Q : Out → MS → Prop} (x0 : Nat) (x1 : Int) (x2 : Int) (S : MS) (h : VX2_risingAt_0 d Q x0 x1 x2 S) : Jw FinM RX2 cX2_risingAt 4 (some (.array .long)) [] yX2_risingAt (d + 1) S0 S 0 [(0, vA x0), (1, vI x1), (2, vI x2)] [] Q :=
  j_iload_n 1 dX2_risingAt_0 rfl (j_aload_n 0 dX2_risingAt_1 rfl (j_getI 2 0 f_RX2_28 dX2_risingAt_2 h (fun h => j_imul dX2_risingAt_5 (j_iload_n 2 dX2_risingAt_6 rfl (j_iadd dX2_risingAt_7 (j_istore_n (lv2 := [(3, vI ((x1 * (S.I x0 0)) + x2)), (0, vA x0), (1, vI x1), (2, vI x2)]) dX2_risingAt_8 (by decide) rfl (j_iload_n 0 dX2_risingAt_9 rfl (j_if_lt (tgt := 31) dX2_risingAt_10 (by decide) h (fun h => j_sub [1] rfl (JX2_risingAt_31 _ _ h)) (fun h => j_iload_n 0 dX2_risingAt_13 rfl (j_aload_n 1 dX2_risingAt_14 rfl (j_getR 2 7 f_RX2_45 dX2_risingAt_15 h (fun b1 h => j_alen dX2_risingAt_18 h (fun h => j_icmp_ge (tgt := 31) dX2_risingAt_19 (by decide) h (fun h => j_sub [1] rfl (JX2_risingAt_31 _ _ h)) (fun h => j_aload_n 1 dX2_risingAt_22 rfl (j_getR 2 7 f_RX2_45 dX2_risingAt_23 h (fun b2 h => j_iload_n 0 dX2_risingAt_26 rfl (j_aald 20 dX2_risingAt_27 h (fun b3 h => j_goto (tgt := 35) dX2_risingAt_28 (by decide) (j_aret rfl (by first | exact Or.inl ⟨_, rfl⟩ | exact Or.inr ⟨_, rfl⟩) dX2_risingAt_35 h)))))))))))))))))))
theorem MX2_risingAt {d : Nat} {x0 : Nat} {x1 : Int} {x2 : Int} {S : MS} {Q : Out → MS → Prop} (h : VX2_risingAt_0 d Q x0 x1 x2 S) : Mw hX2_risingAt yX2_risingAt (d + 1) [vA x0, vI x1, vI x2] S Q := Mw.ofJ (by decide) (Nat.le_of_ble_eq_true rfl) (JX2_risingAt_0 _ _ _ S h)
theorem dX2_measure_0 : decode cX2_measure 0 = .ok (.aload_n 1, 1) := by decide +kernel
theorem dX2_measure_1 : decode cX2_measure 1 = .ok (.getfield 89, 3) := by decide +kernel
theorem dX2_measure_4 : decode cX2_measure 4 = .ok (.istore_n 3, 1) := by decide +kernel
theorem dX2_measure_5 : decode cX2_measure 5 = .ok (.aload_n 0, 1) := by decide +kernel
theorem dX2_measure_6 : decode cX2_measure 6 = .ok (.iconst 0, 1) := by decide +kernel
theorem dX2_measure_7 : decode cX2_measure 7 = .ok (.putfield 9, 3) := by decide +kernel
theorem dX2_measure_10 : decode cX2_measure 10 = .ok (.aload_n 0, 1) := by decide +kernel
theorem dX2_measure_11 : decode cX2_measure 11 = .ok (.iconst 0, 1) := by decide +kernel
theorem dX2_measure_12 : decode cX2_measure 12 = .ok (.putfield 15, 3) := by decide +kernel
theorem dX2_measure_15 : decode cX2_measure 15 = .ok (.iconst 0, 1) := by decide +kernel
theorem dX2_measure_16 : decode cX2_measure 16 = .ok (.istore 4, 2) := by decide +kernel
theorem dX2_measure_18 : decode cX2_measure 18 = .ok (.iload 4, 2) := by decide +kernel
theorem dX2_measure_20 : decode cX2_measure 20 = .ok (.aload_n 0, 1) := by decide +kernel
theorem dX2_measure_21 : decode cX2_measure 21 = .ok (.getfield 28, 3) := by decide +kernel
theorem dX2_measure_24 : decode cX2_measure 24 = .ok (.if_icmp .ge 69, 3) := by decide +kernel
theorem dX2_measure_27 : decode cX2_measure 27 = .ok (.iload 4, 2) := by decide +kernel
theorem dX2_measure_29 : decode cX2_measure 29 = .ok (.aload_n 0, 1) := by decide +kernel
theorem dX2_measure_30 : decode cX2_measure 30 = .ok (.getfield 28, 3) := by decide +kernel
theorem dX2_measure_33 : decode cX2_measure 33 = .ok (.iconst 1, 1) := by decide +kernel
theorem dX2_measure_34 : decode cX2_measure 34 = .ok (.isub, 1) := by decide +kernel
theorem dX2_measure_35 : decode cX2_measure 35 = .ok (.if_icmp .ne 7, 3) := by decide +kernel
theorem dX2_measure_38 : decode cX2_measure 38 = .ok (.iload_n 3, 1) := by decide +kernel
theorem dX2_measure_39 : decode cX2_measure 39 = .ok (.goto 14, 3) := by decide +kernel
theorem dX2_measure_42 : decode cX2_measure 42 = .ok (.aload_n 1, 1) := by decide +kernel
theorem dX2_measure_43 : decode cX2_measure 43 = .ok (.aload_n 0, 1) := by decide +kernel
theorem dX2_measure_44 : decode cX2_measure 44 = .ok (.iload_n 2, 1) := by decide +kernel
theorem dX2_measure_45 : decode cX2_measure 45 = .ok (.iload 4, 2) := by decide +kernel
theorem dX2_measure_47 : decode cX2_measure 47 = .ok (.invokevirtual 86, 3) := by decide +kernel
theorem dX2_measure_50 : decode cX2_measure 50 = .ok (.invokevirtual 94, 3) := by decide +kernel
theorem dX2_measure_53 : decode cX2_measure 53 = .ok (.istore 5, 2) := by decide +kernel
theorem dX2_measure_55 : decode cX2_measure 55 = .ok (.iload_n 3, 1) := by decide +kernel
theorem dX2_measure_56 : decode cX2_measure 56 = .ok (.iload 5, 2) := by decide +kernel
theorem dX2_measure_58 : decode cX2_measure 58 = .ok (.isub, 1) := by decide +kernel
theorem dX2_measure_59 : decode cX2_measure 59 = .ok (.istore_n 3, 1) := by decide +kernel
theorem dX2_measure_60 : decode cX2_measure 60 = .ok (.aload_n 0, 1) := by decide +kernel
theorem dX2_measure_61 : decode cX2_measure 61 = .ok (.aload_n 0, 1) := by decide +kernel
theorem dX2_measure_62 : decode cX2_measure 62 = .ok (.getfield 9, 3) := by decide +kernel
theorem dX2_measure_65 : decode cX2_measure 65 = .ok (.iload 5, 2) := by decide +kernel
theorem dX2_measure_67 : decode cX2_measure 67 = .ok (.invokestatic 98, 3) := by decide +kernel
theorem dX2_measure_70 : decode cX2_measure 70 = .ok (.putfield 9, 3) := by decide +kernel
theorem dX2_measure_73 : decode cX2_measure 73 = .ok (.aload_n 0, 1) := by decide +kernel
theorem dX2_measure_74 : decode cX2_measure 74 = .ok (.dup, 1) := by decide +kernel
theorem dX2_measure_75 : decode cX2_measure 75 = .ok (.getfield 15, 3) := by decide +kernel
theorem dX2_measure_78 : decode cX2_measure 78 = .ok (.iload 5, 2) := by decide +kernel
theorem dX2_measure_80 : decode cX2_measure 80 = .ok (.iload 5, 2) := by decide +kernel
theorem dX2_measure_82 : decode cX2_measure 82 = .ok (.imul, 1) := by decide +kernel
theorem dX2_measure_83 : decode cX2_measure 83 = .ok (.iadd, 1) := by decide +kernel
theorem dX2_measure_84 : decode cX2_measure 84 = .ok (.putfield 15, 3) := by decide +kernel
theorem dX2_measure_87 : decode cX2_measure 87 = .ok (.iinc 4 1, 3) := by decide +kernel
theorem dX2_measure_90 : decode cX2_measure 90 = .ok (.goto (-72), 3) := by decide +kernel
theorem dX2_measure_93 : decode cX2_measure 93 = .ok (.return_, 1) := by decide +kernel
def VX2_measure_53 (d : Nat) (c18 : Nat → Nat → Int → Int → Int → MS → Prop) (Q : Out → MS → Prop) (x0 : Nat) (x1 : Nat) (x2 : Int) (x3 : Int) (x4 : Int) (t0 : Int) (S : MS) : Prop :=
  S.K x0 = 2 ∧ ((R32 (S.I x0 2) ∧ R32 t0) ∧ (S.K x0 = 2 ∧ ((S.setI x0 2 (max (S.I x0 2) t0)).K x0 = 2 ∧ ((S.setI x0 2 (max (S.I x0 2) t0)).K x0 = 2 ∧ (∀ S1 : MS, S1 = (S.setI x0 2 (max (S.I x0 2) t0)).setI x0 3 (((S.setI x0 2 (max (S.I x0 2) t0)).I x0 3) + (t0 * t0)) → c18 x0 x1 x2 (x3 - t0) (x4 + 1) S1)))))
theorem JX2_measure_53 {d : Nat} {c18 : Nat → Nat → Int → Int → Int → MS → Prop} {S0 : MS} {Q : Out → MS → Prop} (hc18 : ∀ (x0 : Nat) (x1 : Nat) (x2 : Int) (x3 : Int) (x4 : Int) (S : MS), c18 x0 x1 x2 x3 x4 S → Jw FinM RX2 cX2_measure 6 none [] yX2_measure (d + 1) S0 S 18 [(0, vA x0), (1, vA x1), (2, vI x2), (3, vI x3), (4, vI x4)] [] Q) (x0 : Nat) (x1 : Nat) (x2 : Int) (x3 : Int) (x4 : Int) (t0 : Int) (S : MS) (h : VX2_measure_53 d c18 Q x0 x1 x2 x3 x4 t0 S) : Jw FinM RX2 cX2_measure 6 none [] yX2_measure (d + 1) S0 S 53 [(0, vA x0), (1, vA x1), (2, vI x2), (3, vI x3), (4, vI x4)] [vI t0] Q :=
  j_istore (lv2 := [(5, vI t0), (0, vA x0), (1, vA x1), (2, vI x2), (3, vI x3), (4, vI x4)]) dX2_measure_53 (by decide) rfl (j_iload_n 4 dX2_measure_55 rfl (j_iload 0 dX2_measure_56 rfl (j_isub dX2_measure_58 (j_istore_n (lv2 := [(3, vI (x3 - t0)), (5, vI t0), (0, vA x0), (1, vA x1), (2, vI x2), (4, vI x4)]) dX2_measure_59 (by decide) rfl (j_aload_n 2 dX2_measure_60 rfl (j_aload_n 2 dX2_measure_61 rfl (j_getI 2 2 f_RX2_9 dX2_measure_62 h (fun h => j_iload 1 dX2_measure_65 rfl (j_mmax w_3_199 w_2_67 w_1_16 w_mmax (Nat.le_of_ble_eq_true rfl) dX2_measure_67 h (fun h => j_putI 2 2 f_RX2_9 dX2_measure_70 h (fun h => j_aload_n 2 dX2_measure_73 rfl (j_dup rfl dX2_measure_74 (j_getI 2 3 f_RX2_15 dX2_measure_75 h (fun h => j_iload 1 dX2_measure_78 rfl (j_iload 1 dX2_measure_80 rfl (j_imul dX2_measure_82 (j_iadd dX2_measure_83 (j_putI 2 3 f_RX2_15 dX2_measure_84 h (fun h => j_bind h (fun S1 h => j_iinc 5 (lv2 := [(4, vI (x4 + 1)), (3, vI (x3 - t0)), (5, vI t0), (0, vA x0), (1, vA x1), (2, vI x2)]) dX2_measure_87 rfl (by decide) rfl (j_goto (tgt := 18) dX2_measure_90 (by decide) (j_sub [3, 4, 5, 1, 0] rfl (hc18 _ _ _ _ _ _ h)))))))))))))))))))))))
def VX2_measure_18 (d : Nat) (Q : Out → MS → Prop) : Nat → Nat → Nat → Int → Int → Int → MS → Prop
  | 0, _, _, _, _, _, _ => False
  | n + 1, x0, x1, x2, x3, x4, S => S.K x0 = 2 ∧ ((R32 x4 ∧ R32 (S.I x0 0)) ∧ (((S.I x0 0) ≤ x4) → Q (.inl none) S) ∧ (¬ ((S.I x0 0) ≤ x4) → S.K x0 = 2 ∧ ((R32 x4 ∧ R32 ((S.I x0 0) - 1)) ∧ (¬ (x4 = ((S.I x0 0) - 1)) → S.K x0 = 2 ∧ Mw hX2_risingAt yX2_risingAt d [vA x0, vI x2, vI x4] S (oA (fun r1 S1 => S1.K x1 = 5 ∧ Mw hX5_shared yX5_shared d [vA x1, vA r1] S1 (oI (fun r2 S2 => VX2_measure_53 d (VX2_measure_18 d Q n) Q x0 x1 x2 x3 x4 r2 S2))))) ∧ ((x4 = ((S.I x0 0) - 1)) → VX2_measure_53 d (VX2_measure_18 d Q n) Q x0 x1 x2 x3 x4 x3 S))))
theorem JX2_measure_18 {d : Nat} {S0 : MS} {Q : Out → MS → Prop} : ∀ (n : Nat) (x0 : Nat) (x1 : Nat) (x2 : Int) (x3 : Int) (x4 : Int) (S : MS), VX2_measure_18 d Q n x0 x1 x2 x3 x4 S → Jw FinM RX2 cX2_measure 6 none [] yX2_measure (d + 1) S0 S 18 [(0, vA x0), (1, vA x1), (2, vI x2), (3, vI x3), (4, vI x4)] [] Q := by
  intro n
  induction n with
  | zero => intro x0 x1 x2 x3 x4 S h; exact h.elim
  | succ n ih =>
    intro x0 x1 x2 x3 x4 S h
    exact j_iload 4 dX2_measure_18 rfl (j_aload_n 0 dX2_measure_20 rfl (j_getI 2 0 f_RX2_28 dX2_measure_21 h (fun h => j_icmp_ge (tgt := 93) dX2_measure_24 (by decide) h (fun h => j_vret rfl dX2_measure_93 h) (fun h => j_iload 4 dX2_measure_27 rfl (j_aload_n 0 dX2_measure_29 rfl (j_getI 2 0 f_RX2_28 dX2_measure_30 h (fun h => j_iconst dX2_measure_33 (j_isub dX2_measure_34 (j_icmp_ne (tgt := 42) dX2_measure_35 (by decide) h (fun h => j_aload_n 1 dX2_measure_42 rfl (j_aload_n 0 dX2_measure_43 rfl (j_iload_n 2 dX2_measure_44 rfl (j_iload 4 dX2_measure_45 rfl (j_callV (rest := [vA x1]) 2 [vI x2, vI x4] k_RX2_86 ⟨w_2_233, w_2_234⟩ ⟨_, _, rfl⟩ (by decide) rfl rfl (Nat.le_of_ble_eq_true rfl) dX2_measure_47 h (kA (fun r1 S1 h => j_callV (rest := []) 5 [vA r1] k_RX2_94 ⟨w_3_46, w_3_47⟩ ⟨_, _, rfl⟩ (by decide) rfl rfl (Nat.le_of_ble_eq_true rfl) dX2_measure_50 h (kI (fun r2 S2 h => JX2_measure_53 ih _ _ _ _ _ _ _ h)) (fun _ _ h => h.elim))) (fun _ _ h => h.elim)))))) (fun h => j_iload_n 3 dX2_measure_38 rfl (j_goto (tgt := 53) dX2_measure_39 (by decide) (JX2_measure_53 ih _ _ _ _ _ _ _ h))))))))))))
def VX2_measure_0 (d : Nat) (Q : Out → MS → Prop) (x0 : Nat) (x1 : Nat) (x2 : Int) (S : MS) : Prop :=
  S.K x1 = 5 ∧ (S.K x0 = 2 ∧ ((S.setI x0 2 0).K x0 = 2 ∧ (∃ m, VX2_measure_18 d Q m x0 x1 x2 (S.I x1 0) 0 ((S.setI x0 2 0).setI x0 3 0))))
theorem JX2_measure_0 {d : Nat} {S0 : MS} {Q : Out → MS → Prop} (x0 : Nat) (x1 : Nat) (x2 : Int) (S : MS) (h : VX2_measure_0 d Q x0 x1 x2 S) : Jw FinM RX2 cX2_measure 6 none [] yX2_measure (d + 1) S0 S 0 [(0, vA x0), (1, vA x1), (2, vI x2)] [] Q :=
  j_aload_n 1 dX2_measure_0 rfl (j_getI 5 0 f_RX2_89 dX2_measure_1 h (fun h => j_istore_n (lv2 := [(3, vI (S.I x1 0)), (0, vA x0), (1, vA x1), (2, vI x2)]) dX2_measure_4 (by decide) rfl (j_aload_n 1 dX2_measure_5 rfl (j_iconst dX2_measure_6 (j_putI 2 2 f_RX2_9 dX2_measure_7 h (fun h => j_aload_n 1 dX2_measure_10 rfl (j_iconst dX2_measure_11 (j_putI 2 3 f_RX2_15 dX2_measure_12 h (fun h => j_iconst dX2_measure_15 (j_istore (lv2 := [(4, vI 0), (3, vI (S.I x1 0)), (0, vA x0), (1, vA x1), (2, vI x2)]) dX2_measure_16 (by decide) rfl (Exists.elim h (fun m h => j_sub [2, 3, 4, 1, 0] rfl (JX2_measure_18 m _ _ _ _ _ _ h)))))))))))))
theorem MX2_measure {d : Nat} {x0 : Nat} {x1 : Nat} {x2 : Int} {S : MS} {Q : Out → MS → Prop} (h : VX2_measure_0 d Q x0 x1 x2 S) : Mw hX2_measure yX2_measure (d + 1) [vA x0, vA x1, vI x2] S Q := Mw.ofJ (by decide) (Nat.le_of_ble_eq_true rfl) (JX2_measure_0 _ _ _ S h)
theorem dX2_best_0 : decode cX2_best 0 = .ok (.iconst (-1), 1) := by decide +kernel
theorem dX2_best_1 : decode cX2_best 1 = .ok (.istore_n 2, 1) := by decide +kernel
theorem dX2_best_2 : decode cX2_best 2 = .ok (.aload_n 0, 1) := by decide +kernel
theorem dX2_best_3 : decode cX2_best 3 = .ok (.aload_n 1, 1) := by decide +kernel
theorem dX2_best_4 : decode cX2_best 4 = .ok (.getfield 89, 3) := by decide +kernel
theorem dX2_best_7 : decode cX2_best 7 = .ok (.invokevirtual 104, 3) := by decide +kernel
theorem dX2_best_10 : decode cX2_best 10 = .ok (.istore_n 3, 1) := by decide +kernel
theorem dX2_best_11 : decode cX2_best 11 = .ok (.iconst 0, 1) := by decide +kernel
theorem dX2_best_12 : decode cX2_best 12 = .ok (.istore 4, 2) := by decide +kernel
theorem dX2_best_14 : decode cX2_best 14 = .ok (.iconst 0, 1) := by decide +kernel
theorem dX2_best_15 : decode cX2_best 15 = .ok (.istore 5, 2) := by decide +kernel
theorem dX2_best_17 : decode cX2_best 17 = .ok (.iconst 0, 1) := by decide +kernel
theorem dX2_best_18 : decode cX2_best 18 = .ok (.istore 6, 2) := by decide +kernel
theorem dX2_best_20 : decode cX2_best 20 = .ok (.iload 6, 2) := by decide +kernel
theorem dX2_best_22 : decode cX2_best 22 = .ok (.aload_n 0, 1) := by decide +kernel
theorem dX2_best_23 : decode cX2_best 23 = .ok (.getfield 36, 3) := by decide +kernel
theorem dX2_best_26 : decode cX2_best 26 = .ok (.arraylength, 1) := by decide +kernel
theorem dX2_best_27 : decode cX2_best 27 = .ok (.if_icmp .ge 86, 3) := by decide +kernel
theorem dX2_best_30 : decode cX2_best 30 = .ok (.iload_n 2, 1) := by decide +kernel
theorem dX2_best_31 : decode cX2_best 31 = .ok (.iconst (-1), 1) := by decide +kernel
theorem dX2_best_32 : decode cX2_best 32 = .ok (.if_icmp .eq 9, 3) := by decide +kernel
theorem dX2_best_35 : decode cX2_best 35 = .ok (.iload 5, 2) := by decide +kernel
theorem dX2_best_37 : decode cX2_best 37 = .ok (.iload_n 3, 1) := by decide +kernel
theorem dX2_best_38 : decode cX2_best 38 = .ok (.if_icmp .le 75, 3) := by decide +kernel
theorem dX2_best_41 : decode cX2_best 41 = .ok (.aload_n 0, 1) := by decide +kernel
theorem dX2_best_42 : decode cX2_best 42 = .ok (.aload_n 1, 1) := by decide +kernel
theorem dX2_best_43 : decode cX2_best 43 = .ok (.iload 6, 2) := by decide +kernel
theorem dX2_best_45 : decode cX2_best 45 = .ok (.invokevirtual 107, 3) := by decide +kernel
theorem dX2_best_48 : decode cX2_best 48 = .ok (.aload_n 0, 1) := by decide +kernel
theorem dX2_best_49 : decode cX2_best 49 = .ok (.getfield 9, 3) := by decide +kernel
theorem dX2_best_52 : decode cX2_best 52 = .ok (.iload 4, 2) := by decide +kernel
theorem dX2_best_54 : decode cX2_best 54 = .ok (.if_icmp .lt 21, 3) := by decide +kernel
theorem dX2_best_57 : decode cX2_best 57 = .ok (.aload_n 0, 1) := by decide +kernel
theorem dX2_best_58 : decode cX2_best 58 = .ok (.getfield 9, 3) := by decide +kernel
theorem dX2_best_61 : decode cX2_best 61 = .ok (.iload 4, 2) := by decide +kernel
theorem dX2_best_63 : decode cX2_best 63 = .ok (.if_icmp .ne 16, 3) := by decide +kernel
theorem dX2_best_66 : decode cX2_best 66 = .ok (.aload_n 0, 1) := by decide +kernel
theorem dX2_best_67 : decode cX2_best 67 = .ok (.getfield 15, 3) := by decide +kernel
theorem dX2_best_70 : decode cX2_best 70 = .ok (.iload 5, 2) := by decide +kernel
theorem dX2_best_72 : decode cX2_best 72 = .ok (.if_icmp .ge 7, 3) := by decide +kernel
theorem dX2_best_75 : decode cX2_best 75 = .ok (.iconst 1, 1) := by decide +kernel
theorem dX2_best_76 : decode cX2_best 76 = .ok (.goto 4, 3) := by decide +kernel
theorem dX2_best_79 : decode cX2_best 79 = .ok (.iconst 0, 1) := by decide +kernel
theorem dX2_best_80 : decode cX2_best 80 = .ok (.istore 7, 2) := by decide +kernel
theorem dX2_best_82 : decode cX2_best 82 = .ok (.iload_n 2, 1) := by decide +kernel
theorem dX2_best_83 : decode cX2_best 83 = .ok (.iconst (-1), 1) := by decide +kernel
theorem dX2_best_84 : decode cX2_best 84 = .ok (.if_icmp .eq 8, 3) := by decide +kernel
theorem dX2_best_87 : decode cX2_best 87 = .ok (.iload 7, 2) := by decide +kernel
theorem dX2_best_89 : decode cX2_best 89 = .ok (.ifCond .eq 18, 3) := by decide +kernel
theorem dX2_best_92 : decode cX2_best 92 = .ok (.iload 6, 2) := by decide +kernel
theorem dX2_best_94 : decode cX2_best 94 = .ok (.istore_n 2, 1) := by decide +kernel
theorem dX2_best_95 : decode cX2_best 95 = .ok (.aload_n 0, 1) := by decide +kernel
theorem dX2_best_96 : decode cX2_best 96 = .ok (.getfield 9, 3) := by decide +kernel
theorem dX2_best_99 : decode cX2_best 99 = .ok (.istore 4, 2) := by decide +kernel
theorem dX2_best_101 : decode cX2_best 101 = .ok (.aload_n 0, 1) := by decide +kernel
theorem dX2_best_102 : decode cX2_best 102 = .ok (.getfield 15, 3) := by decide +kernel
theorem dX2_best_105 : decode cX2_best 105 = .ok (.istore 5, 2) := by decide +kernel
theorem dX2_best_107 : decode cX2_best 107 = .ok (.iinc 6 1, 3) := by decide +kernel
theorem dX2_best_110 : decode cX2_best 110 = .ok (.goto (-90), 3) := by decide +kernel
theorem dX2_best_113 : decode cX2_best 113 = .ok (.aload_n 0, 1) := by decide +kernel
theorem dX2_best_114 : decode cX2_best 114 = .ok (.iload 4, 2) := by decide +kernel
theorem dX2_best_116 : decode cX2_best 116 = .ok (.putfield 9, 3) := by decide +kernel
theorem dX2_best_119 : decode cX2_best 119 = .ok (.aload_n 0, 1) := by decide +kernel
theorem dX2_best_120 : decode cX2_best 120 = .ok (.iload 5, 2) := by decide +kernel
theorem dX2_best_122 : decode cX2_best 122 = .ok (.putfield 15, 3) := by decide +kernel
theorem dX2_best_125 : decode cX2_best 125 = .ok (.iload_n 2, 1) := by decide +kernel
theorem dX2_best_126 : decode cX2_best 126 = .ok (.ireturn, 1) := by decide +kernel
def VX2_best_107 (d : Nat) (c20 : Nat → Nat → Int → Int → Int → Int → Int → MS → Prop) (Q : Out → MS → Prop) (x0 : Nat) (x1 : Nat) (x2 : Int) (x3 : Int) (x4 : Int) (x5 : Int) (x6 : Int) (S : MS) : Prop :=
  c20 x0 x1 x2 x3 x4 x5 (x6 + 1) S
theorem JX2_best_107 {d : Nat} {c20 : Nat → Nat → Int → Int → Int → Int → Int → MS → Prop} {S0 : MS} {Q : Out → MS → Prop} (hc20 : ∀ (x0 : Nat) (x1 : Nat) (x2 : Int) (x3 : Int) (x4 : Int) (x5 : Int) (x6 : Int) (S : MS), c20 x0 x1 x2 x3 x4 x5 x6 S → Jw FinM RX2 cX2_best 8 (some .int) [] yX2_best (d + 1) S0 S 20 [(0, vA x0), (1, vA x1), (2, vI x2), (3, vI x3), (4, vI x4), (5, vI x5), (6, vI x6)] [] Q) (x0 : Nat) (x1 : Nat) (x2 : Int) (x3 : Int) (x4 : Int) (x5 : Int) (x6 : Int) (S : MS) (h : VX2_best_107 d c20 Q x0 x1 x2 x3 x4 x5 x6 S) : Jw FinM RX2 cX2_best 8 (some .int) [] yX2_best (d + 1) S0 S 107 [(0, vA x0), (1, vA x1), (2, vI x2), (3, vI x3), (4, vI x4), (5, vI x5), (6, vI x6)] [] Q :=
  j_iinc 6 (lv2 := [(6, vI (x6 + 1)), (0, vA x0), (1, vA x1), (2, vI x2), (3, vI x3), (4, vI x4), (5, vI x5)]) dX2_best_107 rfl (by decide) rfl (j_goto (tgt := 20) dX2_best_110 (by decide) (j_sub [1, 2, 3, 4, 5, 6, 0] rfl (hc20 _ _ _ _ _ _ _ _ h)))
def VX2_best_92 (d : Nat) (c20 : Nat → Nat → Int → Int → Int → Int → Int → MS → Prop) (Q : Out → MS → Prop) (x0 : Nat) (x1 : Nat) (x3 : Int) (x6 : Int) (S : MS) : Prop :=
  S.K x0 = 2 ∧ (S.K x0 = 2 ∧ (VX2_best_107 d c20 Q x0 x1 x6 x3 (S.I x0 2) (S.I x0 3) x6 S))
theorem JX2_best_92 {d : Nat} {c20 : Nat → Nat → Int → Int → Int → Int → Int → MS → Prop} {S0 : MS} {Q : Out → MS → Prop} (hc20 : ∀ (x0 : Nat) (x1 : Nat) (x2 : Int) (x3 : Int) (x4 : Int) (x5 : Int) (x6 : Int) (S : MS), c20 x0 x1 x2 x3 x4 x5 x6 S → Jw FinM RX2 cX2_best 8 (some .int) [] yX2_best (d + 1) S0 S 20 [(0, vA x0), (1, vA x1), (2, vI x2), (3, vI x3), (4, vI x4), (5, vI x5), (6, vI x6)] [] Q) (x0 : Nat) (x1 : Nat) (x3 : Int) (x6 : Int) (S : MS) (h : VX2_best_92 d c20 Q x0 x1 x3 x6 S) : Jw FinM RX2 cX2_best 8 (some .int) [] yX2_best (d + 1) S0 S 92 [(0, vA x0), (1, vA x1), (3, vI x3), (6, vI x6)] [] Q :=
  j_iload 3 dX2_best_92 rfl (j_istore_n (lv2 := [(2, vI x6), (0, vA x0), (1, vA x1), (3, vI x3), (6, vI x6)]) dX2_best_94 (by decide) rfl (j_aload_n 1 dX2_best_95 rfl (j_getI 2 2 f_RX2_9 dX2_best_96 h (fun h => j_istore (lv2 := [(4, vI (S.I x0 2)), (2, vI x6), (0, vA x0), (1, vA x1), (3, vI x3), (6, vI x6)]) dX2_best_99 (by decide) rfl (j_aload_n 2 dX2_best_101 rfl (j_getI 2 3 f_RX2_15 dX2_best_102 h (fun h => j_istore (lv2 := [(5, vI (S.I x0 3)), (4, vI (S.I x0 2)), (2, vI x6), (0, vA x0), (1, vA x1), (3, vI x3), (6, vI x6)]) dX2_best_105 (by decide) rfl (j_sub [3, 4, 2, 5, 1, 0, 6] rfl (JX2_best_107 hc20 _ _ _ _ _ _ _ _ h)))))))))
def VX2_best_80 (d : Nat) (c20 : Nat → Nat → Int → Int → Int → Int → Int → MS → Prop) (Q : Out → MS → Prop) (x0 : Nat) (x1 : Nat) (x2 : Int) (x3 : Int) (x4 : Int) (x5 : Int) (x6 : Int) (t0 : Int) (S : MS) : Prop :=
  (R32 x2 ∧ R32 ((-1) : Int)) ∧ ((x2 = ((-1) : Int)) → VX2_best_92 d c20 Q x0 x1 x3 x6 S) ∧ (¬ (x2 = ((-1) : Int)) → R32 t0 ∧ ((t0 = 0) → VX2_best_107 d c20 Q x0 x1 x2 x3 x4 x5 x6 S) ∧ (¬ (t0 = 0) → VX2_best_92 d c20 Q x0 x1 x3 x6 S))
theorem JX2_best_80 {d : Nat} {c20 : Nat → Nat → Int → Int → Int → Int → Int → MS → Prop} {S0 : MS} {Q : Out → MS → Prop} (hc20 : ∀ (x0 : Nat) (x1 : Nat) (x2 : Int) (x3 : Int) (x4 : Int) (x5 : Int) (x6 : Int) (S : MS), c20 x0 x1 x2 x3 x4 x5 x6 S → Jw FinM RX2 cX2_best 8 (some .int) [] yX2_best (d + 1) S0 S 20 [(0, vA x0), (1, vA x1), (2, vI x2), (3, vI x3), (4, vI x4), (5, vI x5), (6, vI x6)] [] Q) (x0 : Nat) (x1 : Nat) (x2 : Int) (x3 : Int) (x4 : Int) (x5 : Int) (x6 : Int) (t0 : Int) (S : MS) (h : VX2_best_80 d c20 Q x0 x1 x2 x3 x4 x5 x6 t0 S) : Jw FinM RX2 cX2_best 8 (some .int) [] yX2_best (d + 1) S0 S 80 [(0, vA x0), (1, vA x1), (2, vI x2), (3, vI x3), (4, vI x4), (5, vI x5), (6, vI x6)] [vI t0] Q :=
  j_istore (lv2 := [(7, vI t0), (0, vA x0), (1, vA x1), (2, vI x2), (3, vI x3), (4, vI x4), (5, vI x5), (6, vI x6)]) dX2_best_80 (by decide) rfl (j_iload_n 3 dX2_best_82 rfl (j_iconst dX2_best_83 (j_icmp_eq (tgt := 92) dX2_best_84 (by decide) h (fun h => j_sub [1, 2, 4, 7] rfl (JX2_best_92 hc20 _ _ _ _ _ h)) (fun h => j_iload 0 dX2_best_87 rfl (j_if_eq (tgt := 107) dX2_best_89 (by decide) h (fun h => j_sub [1, 2, 3, 4, 5, 6, 7] rfl (JX2_best_107 hc20 _ _ _ _ _ _ _ _ h)) (fun h => j_sub [1, 2, 4, 7] rfl (JX2_best_92 hc20 _ _ _ _ _ h)))))))
def VX2_best_75 (d : Nat) (c20 : Nat → Nat → Int → Int → Int → Int → Int → MS → Prop) (Q : Out → MS → Prop) (x0 : Nat) (x1 : Nat) (x2 : Int) (x3 : Int) (x4 : Int) (x5 : Int) (x6 : Int) (S : MS) : Prop :=
  VX2_best_80 d c20 Q x0 x1 x2 x3 x4 x5 x6 1 S
theorem JX2_best_75 {d : Nat} {c20 : Nat → Nat → Int → Int → Int → Int → Int → MS → Prop} {S0 : MS} {Q : Out → MS → Prop} (hc20 : ∀ (x0 : Nat) (x1 : Nat) (x2 : Int) (x3 : Int) (x4 : Int) (x5 : Int) (x6 : Int) (S : MS), c20 x0 x1 x2 x3 x4 x5 x6 S → Jw FinM RX2 cX2_best 8 (some .int) [] yX2_best (d + 1) S0 S 20 [(0, vA x0), (1, vA x1), (2, vI x2), (3, vI x3), (4, vI x4), (5, vI x5), (6, vI x6)] [] Q) (x0 : Nat) (x1 : Nat) (x2 : Int) (x3 : Int) (x4 : Int) (x5 : Int) (x6 : Int) (S : MS) (h : VX2_best_75 d c20 Q x0 x1 x2 x3 x4 x5 x6 S) : Jw FinM RX2 cX2_best 8 (some .int) [] yX2_best (d + 1) S0 S 75 [(0, vA x0), (1, vA x1), (2, vI x2), (3, vI x3), (4, vI x4), (5, vI x5), (6, vI x6)] [] Q :=
  j_iconst dX2_best_75 (j_goto (tgt := 80) dX2_best_76 (by decide) (JX2_best_80 hc20 _ _ _ _ _ _ _ _ _ h))
def VX2_best_79 (d : Nat) (c20 : Nat → Nat → Int → Int → Int → Int → Int → MS → Prop) (Q : Out → MS → Prop) (x0 : Nat) (x1 : Nat) (x2 : Int) (x3 : Int) (x4 : Int) (x5 : Int) (x6 : Int) (S : MS) : Prop :=
  VX2_best_80 d c20 Q x0 x1 x2 x3 x4 x5 x6 0 S
theorem JX2_best_79 {d : Nat} {c20 : Nat → Nat → Int → Int → Int → Int → Int → MS → Prop} {S0 : MS} {Q : Out → MS → Prop} (hc20 : ∀ (x0 : Nat) (x1 : Nat) (x2 : Int) (x3 : Int) (x4 : Int) (x5 : Int) (x6 : Int) (S : MS), c20 x0 x1 x2 x3 x4 x5 x6 S → Jw FinM RX2 cX2_best 8 (some .int) [] yX2_best (d + 1) S0 S 20 [(0, vA x0), (1, vA x1), (2, vI x2), (3, vI x3), (4, vI x4), (5, vI x5), (6, vI x6)] [] Q) (x0 : Nat) (x1 : Nat) (x2 : Int) (x3 : Int) (x4 : Int) (x5 : Int) (x6 : Int) (S : MS) (h : VX2_best_79 d c20 Q x0 x1 x2 x3 x4 x5 x6 S) : Jw FinM RX2 cX2_best 8 (some .int) [] yX2_best (d + 1) S0 S 79 [(0, vA x0), (1, vA x1), (2, vI x2), (3, vI x3), (4, vI x4), (5, vI x5), (6, vI x6)] [] Q :=
  j_iconst dX2_best_79 (JX2_best_80 hc20 _ _ _ _ _ _ _ _ _ h)
def VX2_best_41 (d : Nat) (c20 : Nat → Nat → Int → Int → Int → Int → Int → MS → Prop) (Q : Out → MS → Prop) (x0 : Nat) (x1 : Nat) (x2 : Int) (x3 : Int) (x4 : Int) (x5 : Int) (x6 : Int) (S : MS) : Prop :=
  S.K x0 = 2 ∧ Mw hX2_measure yX2_measure d [vA x0, vA x1, vI x6] S (oV (fun S1 => S1.K x0 = 2 ∧ ((R32 (S1.I x0 2) ∧ R32 x4) ∧ (((S1.I x0 2) < x4) → VX2_best_75 d c20 Q x0 x1 x2 x3 x4 x5 x6 S1) ∧ (¬ ((S1.I x0 2) < x4) → S1.K x0 = 2 ∧ ((R32 (S1.I x0 2) ∧ R32 x4) ∧ (¬ ((S1.I x0 2) = x4) → VX2_best_79 d c20 Q x0 x1 x2 x3 x4 x5 x6 S1) ∧ (((S1.I x0 2) = x4) → S1.K x0 = 2 ∧ ((R32 (S1.I x0 3) ∧ R32 x5) ∧ ((x5 ≤ (S1.I x0 3)) → VX2_best_79 d c20 Q x0 x1 x2 x3 x4 x5 x6 S1) ∧ (¬ (x5 ≤ (S1.I x0 3)) → VX2_best_75 d c20 Q x0 x1 x2 x3 x4 x5 x6 S1))))))))
theorem JX2_best_41 {d : Nat} {c20 : Nat → Nat → Int → Int → Int → Int → Int → MS → Prop} {S0 : MS} {Q : Out → MS → Prop} (hc20 : ∀ (x0 : Nat) (x1 : Nat) (x2 : Int) (x3 : Int) (x4 : Int) (x5 : Int) (x6 : Int) (S : MS), c20 x0 x1 x2 x3 x4 x5 x6 S → Jw FinM RX2 cX2_best 8 (some .int) [] yX2_best (d + 1) S0 S 20 [(0, vA x0), (1, vA x1), (2, vI x2), (3, vI x3), (4, vI x4), (5, vI x5), (6, vI x6)] [] Q) (x0 : Nat) (x1 : Nat) (x2 : Int) (x3 : Int) (x4 : Int) (x5 : Int) (x6 : Int) (S : MS) (h : VX2_best_41 d c20 Q x0 x1 x2 x3 x4 x5 x6 S) : Jw FinM RX2 cX2_best 8 (some .int) [] yX2_best (d + 1) S0 S 41 [(0, vA x0), (1, vA x1), (2, vI x2), (3, vI x3), (4, vI x4), (5, vI x5), (6, vI x6)] [] Q :=
  j_aload_n 0 dX2_best_41 rfl (j_aload_n 1 dX2_best_42 rfl (j_iload 6 dX2_best_43 rfl (j_callV (rest := []) 2 [vA x1, vI x6] k_RX2_107 ⟨w_3_195, w_3_196⟩ ⟨_, _, rfl⟩ (by decide) rfl rfl (Nat.le_of_ble_eq_true rfl) dX2_best_45 h (kV (fun S1 h => j_aload_n 0 dX2_best_48 rfl (j_getI 2 2 f_RX2_9 dX2_best_49 h (fun h => j_iload 4 dX2_best_52 rfl (j_icmp_lt (tgt := 75) dX2_best_54 (by decide) h (fun h => JX2_best_75 hc20 _ _ _ _ _ _ _ _ h) (fun h => j_aload_n 0 dX2_best_57 rfl (j_getI 2 2 f_RX2_9 dX2_best_58 h (fun h => j_iload 4 dX2_best_61 rfl (j_icmp_ne (tgt := 79) dX2_best_63 (by decide) h (fun h => JX2_best_79 hc20 _ _ _ _ _ _ _ _ h) (fun h => j_aload_n 0 dX2_best_66 rfl (j_getI 2 3 f_RX2_15 dX2_best_67 h (fun h => j_iload 5 dX2_best_70 rfl (j_icmp_ge (tgt := 79) dX2_best_72 (by decide) h (fun h => JX2_best_79 hc20 _ _ _ _ _ _ _ _ h) (fun h => JX2_best_75 hc20 _ _ _ _ _ _ _ _ h)))))))))))))) (fun _ _ h => h.elim))))
def VX2_best_113 (d : Nat) (Q : Out → MS → Prop) (x0 : Nat) (x2 : Int) (x4 : Int) (x5 : Int) (S : MS) : Prop :=
  S.K x0 = 2 ∧ ((S.setI x0 2 x4).K x0 = 2 ∧ (Q (.inl (some (vI x2))) ((S.setI x0 2 x4).setI x0 3 x5)))
theorem JX2_best_113 {d : Nat} {S0 : MS} {Q : Out → MS → Prop} (x0 : Nat) (x2 : Int) (x4 : Int) (x5 : Int) (S : MS) (h : VX2_best_113 d Q x0 x2 x4 x5 S) : Jw FinM RX2 cX2_best 8 (some .int) [] yX2_best (d + 1) S0 S 113 [(0, vA x0), (2, vI x2), (4, vI x4), (5, vI x5)] [] Q :=
  j_aload_n 0 dX2_best_113 rfl (j_iload 2 dX2_best_114 rfl (j_putI 2 2 f_RX2_9 dX2_best_116 h (fun h => j_aload_n 0 dX2_best_119 rfl (j_iload 3 dX2_best_120 rfl (j_putI 2 3 f_RX2_15 dX2_best_122 h (fun h => j_iload_n 1 dX2_best_125 rfl (j_iret rfl dX2_best_126 h)))))))
def VX2_best_20 (d : Nat) (Q : Out → MS → Prop) : Nat → Nat → Nat → Int → Int → Int → Int → Int → MS → Prop
  | 0, _, _, _, _, _, _, _, _ => False
  | n + 1, x0, x1, x2, x3, x4, x5, x6, S => S.K x0 = 2 ∧ ∃ b1, S.R x0 1 = some b1 ∧ ((12 ≤ S.K b1 ∧ S.K b1 < 21) ∧ ((R32 x6 ∧ R32 ((S.N b1 : Int))) ∧ ((((S.N b1 : Int)) ≤ x6) → VX2_best_113 d Q x0 x2 x4 x5 S) ∧ (¬ (((S.N b1 : Int)) ≤ x6) → (R32 x2 ∧ R32 ((-1) : Int)) ∧ ((x2 = ((-1) : Int)) → VX2_best_41 d (VX2_best_20 d Q n) Q x0 x1 x2 x3 x4 x5 x6 S) ∧ (¬ (x2 = ((-1) : Int)) → (R32 x5 ∧ R32 x3) ∧ ((x5 ≤ x3) → VX2_best_113 d Q x0 x2 x4 x5 S) ∧ (¬ (x5 ≤ x3) → VX2_best_41 d (VX2_best_20 d Q n) Q x0 x1 x2 x3 x4 x5 x6 S)))))
theorem JX2_best_20 {d : Nat} {S0 : MS} {Q : Out → MS → Prop} : ∀ (n : Nat) (x0 : Nat) (x1 : Nat) (x2 : Int) (x3 : Int) (x4 : Int) (x5 : Int) (x6 : Int) (S : MS), VX2_best_20 d Q n x0 x1 x2 x3 x4 x5 x6 S → Jw FinM RX2 cX2_best 8 (some .int) [] yX2_best (d + 1) S0 S 20 [(0, vA x0), (1, vA x1), (2, vI x2), (3, vI x3), (4, vI x4), (5, vI x5), (6, vI x6)] [] Q := by
  intro n
  induction n with
  | zero => intro x0 x1 x2 x3 x4 x5 x6 S h; exact h.elim
  | succ n ih =>
    intro x0 x1 x2 x3 x4 x5 x6 S h
    exact j_iload 6 dX2_best_20 rfl (j_aload_n 0 dX2_best_22 rfl (j_getR 2 1 f_RX2_36 dX2_best_23 h (fun b1 h => j_alen dX2_best_26 h (fun h => j_icmp_ge (tgt := 113) dX2_best_27 (by decide) h (fun h => j_sub [0, 2, 4, 5] rfl (JX2_best_113 _ _ _ _ _ h)) (fun h => j_iload_n 2 dX2_best_30 rfl (j_iconst dX2_best_31 (j_icmp_eq (tgt := 41) dX2_best_32 (by decide) h (fun h => JX2_best_41 ih _ _ _ _ _ _ _ _ h) (fun h => j_iload 5 dX2_best_35 rfl (j_iload_n 3 dX2_best_37 rfl (j_icmp_le (tgt := 113) dX2_best_38 (by decide) h (fun h => j_sub [0, 2, 4, 5] rfl (JX2_best_113 _ _ _ _ _ h)) (fun h => JX2_best_41 ih _ _ _ _ _ _ _ _ h)))))))))))
def VX2_best_0 (d : Nat) (Q : Out → MS → Prop) (x0 : Nat) (x1 : Nat) (S : MS) : Prop :=
  S.K x1 = 5 ∧ (S.K x0 = 2 ∧ Mw hX2_evenSpread yX2_evenSpread d [vA x0, vI (S.I x1 0)] S (oI (fun r1 S1 => ∃ m, VX2_best_20 d Q m x0 x1 ((-1)) r1 0 0 0 S1)))
theorem JX2_best_0 {d : Nat} {S0 : MS} {Q : Out → MS → Prop} (x0 : Nat) (x1 : Nat) (S : MS) (h : VX2_best_0 d Q x0 x1 S) : Jw FinM RX2 cX2_best 8 (some .int) [] yX2_best (d + 1) S0 S 0 [(0, vA x0), (1, vA x1)] [] Q :=
  j_iconst dX2_best_0 (j_istore_n (lv2 := [(2, vI ((-1))), (0, vA x0), (1, vA x1)]) dX2_best_1 (by decide) rfl (j_aload_n 1 dX2_best_2 rfl (j_aload_n 2 dX2_best_3 rfl (j_getI 5 0 f_RX2_89 dX2_best_4 h (fun h => j_callV (rest := []) 2 [vI (S.I x1 0)] k_RX2_104 ⟨w_3_192, p_1_14⟩ ⟨_, _, rfl⟩ (by decide) rfl rfl (Nat.le_of_ble_eq_true rfl) dX2_best_7 h (kI (fun r1 S1 h => j_istore_n (lv2 := [(3, vI r1), (2, vI ((-1))), (0, vA x0), (1, vA x1)]) dX2_best_10 (by decide) rfl (j_iconst dX2_best_11 (j_istore (lv2 := [(4, vI 0), (3, vI r1), (2, vI ((-1))), (0, vA x0), (1, vA x1)]) dX2_best_12 (by decide) rfl (j_iconst dX2_best_14 (j_istore (lv2 := [(5, vI 0), (4, vI 0), (3, vI r1), (2, vI ((-1))), (0, vA x0), (1, vA x1)]) dX2_best_15 (by decide) rfl (j_iconst dX2_best_17 (j_istore (lv2 := [(6, vI 0), (5, vI 0), (4, vI 0), (3, vI r1), (2, vI ((-1))), (0, vA x0), (1, vA x1)]) dX2_best_18 (by decide) rfl (Exists.elim h (fun m h => j_sub [5, 6, 4, 3, 2, 1, 0] rfl (JX2_best_20 m _ _ _ _ _ _ _ _ h))))))))))) (fun _ _ h => h.elim))))))
theorem MX2_best {d : Nat} {x0 : Nat} {x1 : Nat} {S : MS} {Q : Out → MS → Prop} (h : VX2_best_0 d Q x0 x1 S) : Mw hX2_best yX2_best (d + 1) [vA x0, vA x1] S Q := Mw.ofJ (by decide) (Nat.le_of_ble_eq_true rfl) (JX2_best_0 _ _ S h)
theorem dX2_evenSpread_0 : decode cX2_evenSpread 0 = .ok (.aload_n 0, 1) := by decide +kernel
theorem dX2_evenSpread_1 : decode cX2_evenSpread 1 = .ok (.getfield 28, 3) := by decide +kernel
theorem dX2_evenSpread_4 : decode cX2_evenSpread 4 = .ok (.ifCond .le 12, 3) := by decide +kernel
theorem dX2_evenSpread_7 : decode cX2_evenSpread 7 = .ok (.iload_n 1, 1) := by decide +kernel
theorem dX2_evenSpread_8 : decode cX2_evenSpread 8 = .ok (.aload_n 0, 1) := by decide +kernel
theorem dX2_evenSpread_9 : decode cX2_evenSpread 9 = .ok (.getfield 28, 3) := by decide +kernel
theorem dX2_evenSpread_12 : decode cX2_evenSpread 12 = .ok (.idiv, 1) := by decide +kernel
theorem dX2_evenSpread_13 : decode cX2_evenSpread 13 = .ok (.goto 4, 3) := by decide +kernel
theorem dX2_evenSpread_16 : decode cX2_evenSpread 16 = .ok (.iload_n 1, 1) := by decide +kernel
theorem dX2_evenSpread_17 : decode cX2_evenSpread 17 = .ok (.istore_n 2, 1) := by decide +kernel
theorem dX2_evenSpread_18 : decode cX2_evenSpread 18 = .ok (.iload_n 1, 1) := by decide +kernel
theorem dX2_evenSpread_19 : decode cX2_evenSpread 19 = .ok (.iload_n 2, 1) := by decide +kernel
theorem dX2_evenSpread_20 : decode cX2_evenSpread 20 = .ok (.aload_n 0, 1) := by decide +kernel
theorem dX2_evenSpread_21 : decode cX2_evenSpread 21 = .ok (.getfield 28, 3) := by decide +kernel
theorem dX2_evenSpread_24 : decode cX2_evenSpread 24 = .ok (.imul, 1) := by decide +kernel
theorem dX2_evenSpread_25 : decode cX2_evenSpread 25 = .ok (.isub, 1) := by decide +kernel
theorem dX2_evenSpread_26 : decode cX2_evenSpread 26 = .ok (.istore_n 3, 1) := by decide +kernel
theorem dX2_evenSpread_27 : decode cX2_evenSpread 27 = .ok (.iload_n 3, 1) := by decide +kernel
theorem dX2_evenSpread_28 : decode cX2_evenSpread 28 = .ok (.iload_n 2, 1) := by decide +kernel
theorem dX2_evenSpread_29 : decode cX2_evenSpread 29 = .ok (.iconst 1, 1) := by decide +kernel
theorem dX2_evenSpread_30 : decode cX2_evenSpread 30 = .ok (.iadd, 1) := by decide +kernel
theorem dX2_evenSpread_31 : decode cX2_evenSpread 31 = .ok (.imul, 1) := by decide +kernel
theorem dX2_evenSpread_32 : decode cX2_evenSpread 32 = .ok (.iload_n 2, 1) := by decide +kernel
theorem dX2_evenSpread_33 : decode cX2_evenSpread 33 = .ok (.iconst 1, 1) := by decide +kernel
theorem dX2_evenSpread_34 : decode cX2_evenSpread 34 = .ok (.iadd, 1) := by decide +kernel
theorem dX2_evenSpread_35 : decode cX2_evenSpread 35 = .ok (.imul, 1) := by decide +kernel
theorem dX2_evenSpread_36 : decode cX2_evenSpread 36 = .ok (.aload_n 0, 1) := by decide +kernel
theorem dX2_evenSpread_37 : decode cX2_evenSpread 37 = .ok (.getfield 28, 3) := by decide +kernel
theorem dX2_evenSpread_40 : decode cX2_evenSpread 40 = .ok (.iload_n 3, 1) := by decide +kernel
theorem dX2_evenSpread_41 : decode cX2_evenSpread 41 = .ok (.isub, 1) := by decide +kernel
theorem dX2_evenSpread_42 : decode cX2_evenSpread 42 = .ok (.iload_n 2, 1) := by decide +kernel
theorem dX2_evenSpread_43 : decode cX2_evenSpread 43 = .ok (.imul, 1) := by decide +kernel
theorem dX2_evenSpread_44 : decode cX2_evenSpread 44 = .ok (.iload_n 2, 1) := by decide +kernel
theorem dX2_evenSpread_45 : decode cX2_evenSpread 45 = .ok (.imul, 1) := by decide +kernel
theorem dX2_evenSpread_46 : decode cX2_evenSpread 46 = .ok (.iadd, 1) := by decide +kernel
theorem dX2_evenSpread_47 : decode cX2_evenSpread 47 = .ok (.ireturn, 1) := by decide +kernel
def VX2_evenSpread_17 (d : Nat) (Q : Out → MS → Prop) (x0 : Nat) (x1 : Int) (t0 : Int) (S : MS) : Prop :=
  S.K x0 = 2 ∧ (S.K x0 = 2 ∧ (Q (.inl (some (vI ((((x1 - (t0 * (S.I x0 0))) * (t0 + 1)) * (t0 + 1)) + ((((S.I x0 0) - (x1 - (t0 * (S.I x0 0)))) * t0) * t0))))) S))
theorem JX2_evenSpread_17 {d : Nat} {S0 : MS} {Q : Out → MS → Prop} (x0 : Nat) (x1 : Int) (t0 : Int) (S : MS) (h : VX2_evenSpread_17 d Q x0 x1 t0 S) : Jw FinM RX2 cX2_evenSpread 4 (some .int) [] yX2_evenSpread (d + 1) S0 S 17 [(0, vA x0), (1, vI x1)] [vI t0] Q :=
  j_istore_n (lv2 := [(2, vI t0), (0, vA x0), (1, vI x1)]) dX2_evenSpread_17 (by decide) rfl (j_iload_n 2 dX2_evenSpread_18 rfl (j_iload_n 0 dX2_evenSpread_19 rfl (j_aload_n 1 dX2_evenSpread_20 rfl (j_getI 2 0 f_RX2_28 dX2_evenSpread_21 h (fun h => j_imul dX2_evenSpread_24 (j_isub dX2_evenSpread_25 (j_istore_n (lv2 := [(3, vI (x1 - (t0 * (S.I x0 0)))), (2, vI t0), (0, vA x0), (1, vI x1)]) dX2_evenSpread_26 (by decide) rfl (j_iload_n 0 dX2_evenSpread_27 rfl (j_iload_n 1 dX2_evenSpread_28 rfl (j_iconst dX2_evenSpread_29 (j_iadd dX2_evenSpread_30 (j_imul dX2_evenSpread_31 (j_iload_n 1 dX2_evenSpread_32 rfl (j_iconst dX2_evenSpread_33 (j_iadd dX2_evenSpread_34 (j_imul dX2_evenSpread_35 (j_aload_n 2 dX2_evenSpread_36 rfl (j_getI 2 0 f_RX2_28 dX2_evenSpread_37 h (fun h => j_iload_n 0 dX2_evenSpread_40 rfl (j_isub dX2_evenSpread_41 (j_iload_n 1 dX2_evenSpread_42 rfl (j_imul dX2_evenSpread_43 (j_iload_n 1 dX2_evenSpread_44 rfl (j_imul dX2_evenSpread_45 (j_iadd dX2_evenSpread_46 (j_iret rfl dX2_evenSpread_47 h))))))))))))))))))))))))))
def VX2_evenSpread_0 (d : Nat) (Q : Out → MS → Prop) (x0 : Nat) (x1 : Int) (S : MS) : Prop :=
  S.K x0 = 2 ∧ (R32 (S.I x0 0) ∧ (((S.I x0 0) ≤ 0) → VX2_evenSpread_17 d Q x0 x1 x1 S) ∧ (¬ ((S.I x0 0) ≤ 0) → S.K x0 = 2 ∧ ((R32 (S.I x0 0) ∧ (S.I x0 0) ≠ 0) ∧ (VX2_evenSpread_17 d Q x0 x1 (iDiv x1 (S.I x0 0)) S))))
theorem JX2_evenSpread_0 {d : Nat} {S0 : MS} {Q : Out → MS → Prop} (x0 : Nat) (x1 : Int) (S : MS) (h : VX2_evenSpread_0 d Q x0 x1 S) : Jw FinM RX2 cX2_evenSpread 4 (some .int) [] yX2_evenSpread (d + 1) S0 S 0 [(0, vA x0), (1, vI x1)] [] Q :=
  j_aload_n 0 dX2_evenSpread_0 rfl (j_getI 2 0 f_RX2_28 dX2_evenSpread_1 h (fun h => j_if_le (tgt := 16) dX2_evenSpread_4 (by decide) h (fun h => j_iload_n 1 dX2_evenSpread_16 rfl (JX2_evenSpread_17 _ _ _ _ h)) (fun h => j_iload_n 1 dX2_evenSpread_7 rfl (j_aload_n 0 dX2_evenSpread_8 rfl (j_getI 2 0 f_RX2_28 dX2_evenSpread_9 h (fun h => j_idiv dX2_evenSpread_12 h (fun h => j_goto (tgt := 17) dX2_evenSpread_13 (by decide) (JX2_evenSpread_17 _ _ _ _ h))))))))
theorem MX2_evenSpread {d : Nat} {x0 : Nat} {x1 : Int} {S : MS} {Q : Out → MS → Prop} (h : VX2_evenSpread_0 d Q x0 x1 S) : Mw hX2_evenSpread yX2_evenSpread (d + 1) [vA x0, vI x1] S Q := Mw.ofJ (by decide) (Nat.le_of_ble_eq_true rfl) (JX2_evenSpread_0 _ _ S h)
theorem dX2_parting_0 : decode cX2_parting 0 = .ok (.aload_n 2, 1) := by decide +kernel
theorem dX2_parting_1 : decode cX2_parting 1 = .ok (.getfield 89, 3) := by decide +kernel
theorem dX2_parting_4 : decode cX2_parting 4 = .ok (.ifCond .eq 11, 3) := by decide +kernel
theorem dX2_parting_7 : decode cX2_parting 7 = .ok (.aload_n 1, 1) := by decide +kernel
theorem dX2_parting_8 : decode cX2_parting 8 = .ok (.aload_n 2, 1) := by decide +kernel
theorem dX2_parting_9 : decode cX2_parting 9 = .ok (.invokevirtual 111, 3) := by decide +kernel
theorem dX2_parting_12 : decode cX2_parting 12 = .ok (.ifCond .eq 5, 3) := by decide +kernel
theorem dX2_parting_15 : decode cX2_parting 15 = .ok (.iconst (-1), 1) := by decide +kernel
theorem dX2_parting_16 : decode cX2_parting 16 = .ok (.ireturn, 1) := by decide +kernel
theorem dX2_parting_17 : decode cX2_parting 17 = .ok (.aload_n 0, 1) := by decide +kernel
theorem dX2_parting_18 : decode cX2_parting 18 = .ok (.aload_n 2, 1) := by decide +kernel
theorem dX2_parting_19 : decode cX2_parting 19 = .ok (.invokevirtual 115, 3) := by decide +kernel
theorem dX2_parting_22 : decode cX2_parting 22 = .ok (.istore_n 3, 1) := by decide +kernel
theorem dX2_parting_23 : decode cX2_parting 23 = .ok (.aload_n 0, 1) := by decide +kernel
theorem dX2_parting_24 : decode cX2_parting 24 = .ok (.getfield 9, 3) := by decide +kernel
theorem dX2_parting_27 : decode cX2_parting 27 = .ok (.aload_n 2, 1) := by decide +kernel
theorem dX2_parting_28 : decode cX2_parting 28 = .ok (.getfield 89, 3) := by decide +kernel
theorem dX2_parting_31 : decode cX2_parting 31 = .ok (.if_icmp .ne 7, 3) := by decide +kernel
theorem dX2_parting_34 : decode cX2_parting 34 = .ok (.iconst (-1), 1) := by decide +kernel
theorem dX2_parting_35 : decode cX2_parting 35 = .ok (.goto 4, 3) := by decide +kernel
theorem dX2_parting_38 : decode cX2_parting 38 = .ok (.iload_n 3, 1) := by decide +kernel
theorem dX2_parting_39 : decode cX2_parting 39 = .ok (.ireturn, 1) := by decide +kernel
def VX2_parting_0 (d : Nat) (Q : Out → MS → Prop) (x0 : Nat) (x1 : Nat) (x2 : Nat) (S : MS) : Prop :=
  S.K x2 = 5 ∧ (R32 (S.I x2 0) ∧ (((S.I x2 0) = 0) → Q (.inl (some (vI ((-1))))) S) ∧ (¬ ((S.I x2 0) = 0) → S.K x1 = 0 ∧ Mw hX0_areKnown yX0_areKnown d [vA x1, vA x2] S (oI (fun r1 S1 => R32 r1 ∧ ((r1 = 0) → S1.K x0 = 2 ∧ Mw hX2_best yX2_best d [vA x0, vA x2] S1 (oI (fun r2 S2 => S2.K x0 = 2 ∧ (S2.K x2 = 5 ∧ ((R32 (S2.I x0 2) ∧ R32 (S2.I x2 0)) ∧ (¬ ((S2.I x0 2) = (S2.I x2 0)) → Q (.inl (some (vI r2))) S2) ∧ (((S2.I x0 2) = (S2.I x2 0)) → Q (.inl (some (vI ((-1))))) S2)))))) ∧ (¬ (r1 = 0) → Q (.inl (some (vI ((-1))))) S1)))))
theorem JX2_parting_0 {d : Nat} {S0 : MS} {Q : Out → MS → Prop} (x0 : Nat) (x1 : Nat) (x2 : Nat) (S : MS) (h : VX2_parting_0 d Q x0 x1 x2 S) : Jw FinM RX2 cX2_parting 4 (some .int) [] yX2_parting (d + 1) S0 S 0 [(0, vA x0), (1, vA x1), (2, vA x2)] [] Q :=
  j_aload_n 2 dX2_parting_0 rfl (j_getI 5 0 f_RX2_89 dX2_parting_1 h (fun h => j_if_eq (tgt := 15) dX2_parting_4 (by decide) h (fun h => j_iconst dX2_parting_15 (j_iret rfl dX2_parting_16 h)) (fun h => j_aload_n 1 dX2_parting_7 rfl (j_aload_n 2 dX2_parting_8 rfl (j_callV (rest := []) 0 [vA x2] k_RX2_111 ⟨w_3_63, w_3_64⟩ ⟨_, _, rfl⟩ (by decide) rfl rfl (Nat.le_of_ble_eq_true rfl) dX2_parting_9 h (kI (fun r1 S1 h => j_if_eq (tgt := 17) dX2_parting_12 (by decide) h (fun h => j_aload_n 0 dX2_parting_17 rfl (j_aload_n 2 dX2_parting_18 rfl (j_callV (rest := []) 2 [vA x2] k_RX2_115 ⟨w_3_187, w_3_188⟩ ⟨_, _, rfl⟩ (by decide) rfl rfl (Nat.le_of_ble_eq_true rfl) dX2_parting_19 h (kI (fun r2 S2 h => j_istore_n (lv2 := [(3, vI r2), (0, vA x0), (1, vA x1), (2, vA x2)]) dX2_parting_22 (by decide) rfl (j_aload_n 1 dX2_parting_23 rfl (j_getI 2 2 f_RX2_9 dX2_parting_24 h (fun h => j_aload_n 3 dX2_parting_27 rfl (j_getI 5 0 f_RX2_89 dX2_parting_28 h (fun h => j_icmp_ne (tgt := 38) dX2_parting_31 (by decide) h (fun h => j_iload_n 0 dX2_parting_38 rfl (j_iret rfl dX2_parting_39 h)) (fun h => j_iconst dX2_parting_34 (j_goto (tgt := 39) dX2_parting_35 (by decide) (j_iret rfl dX2_parting_39 h)))))))))) (fun _ _ h => h.elim)))) (fun h => j_iconst dX2_parting_15 (j_iret rfl dX2_parting_16 h)))) (fun _ _ h => h.elim))))))
theorem MX2_parting {d : Nat} {x0 : Nat} {x1 : Nat} {x2 : Nat} {S : MS} {Q : Out → MS → Prop} (h : VX2_parting_0 d Q x0 x1 x2 S) : Mw hX2_parting yX2_parting (d + 1) [vA x0, vA x1, vA x2] S Q := Mw.ofJ (by decide) (Nat.le_of_ble_eq_true rfl) (JX2_parting_0 _ _ _ S h)
theorem dX2_partsNothing_0 : decode cX2_partsNothing 0 = .ok (.iconst 0, 1) := by decide +kernel
theorem dX2_partsNothing_1 : decode cX2_partsNothing 1 = .ok (.istore_n 3, 1) := by decide +kernel
theorem dX2_partsNothing_2 : decode cX2_partsNothing 2 = .ok (.iconst 0, 1) := by decide +kernel
theorem dX2_partsNothing_3 : decode cX2_partsNothing 3 = .ok (.istore 4, 2) := by decide +kernel
theorem dX2_partsNothing_5 : decode cX2_partsNothing 5 = .ok (.iload 4, 2) := by decide +kernel
theorem dX2_partsNothing_7 : decode cX2_partsNothing 7 = .ok (.aload_n 0, 1) := by decide +kernel
theorem dX2_partsNothing_8 : decode cX2_partsNothing 8 = .ok (.getfield 28, 3) := by decide +kernel
theorem dX2_partsNothing_11 : decode cX2_partsNothing 11 = .ok (.if_icmp .ge 25, 3) := by decide +kernel
theorem dX2_partsNothing_14 : decode cX2_partsNothing 14 = .ok (.iload_n 3, 1) := by decide +kernel
theorem dX2_partsNothing_15 : decode cX2_partsNothing 15 = .ok (.ifCond .ne 21, 3) := by decide +kernel
theorem dX2_partsNothing_18 : decode cX2_partsNothing 18 = .ok (.aload_n 1, 1) := by decide +kernel
theorem dX2_partsNothing_19 : decode cX2_partsNothing 19 = .ok (.aload_n 0, 1) := by decide +kernel
theorem dX2_partsNothing_20 : decode cX2_partsNothing 20 = .ok (.iload_n 2, 1) := by decide +kernel
theorem dX2_partsNothing_21 : decode cX2_partsNothing 21 = .ok (.iload 4, 2) := by decide +kernel
theorem dX2_partsNothing_23 : decode cX2_partsNothing 23 = .ok (.invokevirtual 86, 3) := by decide +kernel
theorem dX2_partsNothing_26 : decode cX2_partsNothing 26 = .ok (.invokevirtual 119, 3) := by decide +kernel
theorem dX2_partsNothing_29 : decode cX2_partsNothing 29 = .ok (.istore_n 3, 1) := by decide +kernel
theorem dX2_partsNothing_30 : decode cX2_partsNothing 30 = .ok (.iinc 4 1, 3) := by decide +kernel
theorem dX2_partsNothing_33 : decode cX2_partsNothing 33 = .ok (.goto (-28), 3) := by decide +kernel
theorem dX2_partsNothing_36 : decode cX2_partsNothing 36 = .ok (.iload_n 3, 1) := by decide +kernel
theorem dX2_partsNothing_37 : decode cX2_partsNothing 37 = .ok (.ireturn, 1) := by decide +kernel
def VX2_partsNothing_36 (d : Nat) (Q : Out → MS → Prop) (x3 : Int) (S : MS) : Prop :=
  B01 x3 ∧ Q (.inl (some (vI x3))) S
theorem JX2_partsNothing_36 {d : Nat} {S0 : MS} {Q : Out → MS → Prop} (x3 : Int) (S : MS) (h : VX2_partsNothing_36 d Q x3 S) : Jw FinM RX2 cX2_partsNothing 5 (some .boolean) [] yX2_partsNothing (d + 1) S0 S 36 [(3, vI x3)] [] Q :=
  j_iload_n 0 dX2_partsNothing_36 rfl (j_zret rfl dX2_partsNothing_37 h)
def VX2_partsNothing_5 (d : Nat) (Q : Out → MS → Prop) : Nat → Nat → Nat → Int → Int → Int → MS → Prop
  | 0, _, _, _, _, _, _ => False
  | n + 1, x0, x1, x2, x3, x4, S => S.K x0 = 2 ∧ ((R32 x4 ∧ R32 (S.I x0 0)) ∧ (((S.I x0 0) ≤ x4) → VX2_partsNothing_36 d Q x3 S) ∧ (¬ ((S.I x0 0) ≤ x4) → R32 x3 ∧ (¬ (x3 = 0) → VX2_partsNothing_36 d Q x3 S) ∧ ((x3 = 0) → S.K x0 = 2 ∧ Mw hX2_risingAt yX2_risingAt d [vA x0, vI x2, vI x4] S (oA (fun r1 S1 => S1.K x1 = 5 ∧ Mw hX5_isWithin yX5_isWithin d [vA x1, vA r1] S1 (oI (fun r2 S2 => (VX2_partsNothing_5 d Q n) x0 x1 x2 r2 (x4 + 1) S2)))))))
theorem JX2_partsNothing_5 {d : Nat} {S0 : MS} {Q : Out → MS → Prop} : ∀ (n : Nat) (x0 : Nat) (x1 : Nat) (x2 : Int) (x3 : Int) (x4 : Int) (S : MS), VX2_partsNothing_5 d Q n x0 x1 x2 x3 x4 S → Jw FinM RX2 cX2_partsNothing 5 (some .boolean) [] yX2_partsNothing (d + 1) S0 S 5 [(0, vA x0), (1, vA x1), (2, vI x2), (3, vI x3), (4, vI x4)] [] Q := by
  intro n
  induction n with
  | zero => intro x0 x1 x2 x3 x4 S h; exact h.elim
  | succ n ih =>
    intro x0 x1 x2 x3 x4 S h
    exact j_iload 4 dX2_partsNothing_5 rfl (j_aload_n 0 dX2_partsNothing_7 rfl (j_getI 2 0 f_RX2_28 dX2_partsNothing_8 h (fun h => j_icmp_ge (tgt := 36) dX2_partsNothing_11 (by decide) h (fun h => j_sub [3] rfl (JX2_partsNothing_36 _ _ h)) (fun h => j_iload_n 3 dX2_partsNothing_14 rfl (j_if_ne (tgt := 36) dX2_partsNothing_15 (by decide) h (fun h => j_sub [3] rfl (JX2_partsNothing_36 _ _ h)) (fun h => j_aload_n 1 dX2_partsNothing_18 rfl (j_aload_n 0 dX2_partsNothing_19 rfl (j_iload_n 2 dX2_partsNothing_20 rfl (j_iload 4 dX2_partsNothing_21 rfl (j_callV (rest := [vA x1]) 2 [vI x2, vI x4] k_RX2_86 ⟨w_2_233, w_2_234⟩ ⟨_, _, rfl⟩ (by decide) rfl rfl (Nat.le_of_ble_eq_true rfl) dX2_partsNothing_23 h (kA (fun r1 S1 h => j_callV (rest := []) 5 [vA r1] k_RX2_119 ⟨w_6_76, w_6_77⟩ ⟨_, _, rfl⟩ (by decide) rfl rfl (Nat.le_of_ble_eq_true rfl) dX2_partsNothing_26 h (kI (fun r2 S2 h => j_istore_n (lv2 := [(3, vI r2), (0, vA x0), (1, vA x1), (2, vI x2), (4, vI x4)]) dX2_partsNothing_29 (by decide) rfl (j_iinc 4 (lv2 := [(4, vI (x4 + 1)), (3, vI r2), (0, vA x0), (1, vA x1), (2, vI x2)]) dX2_partsNothing_30 rfl (by decide) rfl (j_goto (tgt := 5) dX2_partsNothing_33 (by decide) (j_sub [2, 3, 4, 1, 0] rfl (ih _ _ _ _ _ _ h)))))) (fun _ _ h => h.elim))) (fun _ _ h => h.elim)))))))))))
def VX2_partsNothing_0 (d : Nat) (Q : Out → MS → Prop) (x0 : Nat) (x1 : Nat) (x2 : Int) (S : MS) : Prop :=
  ∃ m, VX2_partsNothing_5 d Q m x0 x1 x2 0 0 S
theorem JX2_partsNothing_0 {d : Nat} {S0 : MS} {Q : Out → MS → Prop} (x0 : Nat) (x1 : Nat) (x2 : Int) (S : MS) (h : VX2_partsNothing_0 d Q x0 x1 x2 S) : Jw FinM RX2 cX2_partsNothing 5 (some .boolean) [] yX2_partsNothing (d + 1) S0 S 0 [(0, vA x0), (1, vA x1), (2, vI x2)] [] Q :=
  j_iconst dX2_partsNothing_0 (j_istore_n (lv2 := [(3, vI 0), (0, vA x0), (1, vA x1), (2, vI x2)]) dX2_partsNothing_1 (by decide) rfl (j_iconst dX2_partsNothing_2 (j_istore (lv2 := [(4, vI 0), (3, vI 0), (0, vA x0), (1, vA x1), (2, vI x2)]) dX2_partsNothing_3 (by decide) rfl (Exists.elim h (fun m h => j_sub [2, 3, 4, 1, 0] rfl (JX2_partsNothing_5 m _ _ _ _ _ _ h))))))
theorem MX2_partsNothing {d : Nat} {x0 : Nat} {x1 : Nat} {x2 : Int} {S : MS} {Q : Out → MS → Prop} (h : VX2_partsNothing_0 d Q x0 x1 x2 S) : Mw hX2_partsNothing yX2_partsNothing (d + 1) [vA x0, vA x1, vI x2] S Q := Mw.ofJ (by decide) (Nat.le_of_ble_eq_true rfl) (JX2_partsNothing_0 _ _ _ S h)
