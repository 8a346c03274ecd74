theorem dX6_init_0 : decode cX6_init 0 = .ok (.aload_n 0, 1) := by decide +kernel
theorem dX6_init_1 : decode cX6_init 1 = .ok (.invokespecial 3, 3) := by decide +kernel
theorem dX6_init_4 : decode cX6_init 4 = .ok (.aload_n 0, 1) := by decide +kernel
theorem dX6_init_5 : decode cX6_init 5 = .ok (.bipush 7, 2) := by decide +kernel
theorem dX6_init_7 : decode cX6_init 7 = .ok (.newarray .int, 2) := by decide +kernel
theorem dX6_init_9 : decode cX6_init 9 = .ok (.putfield 9, 3) := by decide +kernel
theorem dX6_init_12 : decode cX6_init 12 = .ok (.aload_n 0, 1) := by decide +kernel
theorem dX6_init_13 : decode cX6_init 13 = .ok (.iconst 0, 1) := by decide +kernel
theorem dX6_init_14 : decode cX6_init 14 = .ok (.putfield 15, 3) := by decide +kernel
theorem dX6_init_17 : decode cX6_init 17 = .ok (.return_, 1) := by decide +kernel
def VX6_init_0 (d : Nat) (Q : Out → MS → Prop) (x0 : Nat) (S : MS) : Prop :=
  (0 ≤ (7 : Int) ∧ (7 : Int) < 1000000) ∧ ((S.mk 13 ((7 : Int)).toNat).K x0 = 6 ∧ (((S.mk 13 ((7 : Int)).toNat).setR x0 0 (some S.nx)).K x0 = 6 ∧ (Q (.inl none) (((S.mk 13 ((7 : Int)).toNat).setR x0 0 (some S.nx)).setI x0 1 0))))
theorem JX6_init_0 {d : Nat} {S0 : MS} {Q : Out → MS → Prop} (x0 : Nat) (S : MS) (h : VX6_init_0 d Q x0 S) : Jw FinM RX6 cX6_init 1 none [] yX6_init (d + 1) S0 S 0 [(0, vA x0)] [] Q :=
  j_aload_n 0 dX6_init_0 rfl (j_objInit w_1_219 dX6_init_1 (Nat.le_of_ble_eq_true rfl) w_1_36 w_objInit (j_aload_n 0 dX6_init_4 rfl (j_bipush dX6_init_5 rfl (j_newb 13 dX6_init_7 rfl (by decide) w_1_58 h (fun h => j_putFR 6 0 f_RX6_9 (by intro q h; cases h; rfl) rfl (fun b => ⟨rfl, rfl⟩) dX6_init_9 h (fun h => j_aload_n 0 dX6_init_12 rfl (j_iconst dX6_init_13 (j_putI 6 1 f_RX6_15 dX6_init_14 h (fun h => j_vret rfl dX6_init_17 h)))))))))
theorem MX6_init {d : Nat} {x0 : Nat} {S : MS} {Q : Out → MS → Prop} (h : VX6_init_0 d Q x0 S) : Mw hX6_init yX6_init (d + 1) [vA x0] S Q := Mw.ofJ (by decide) (Nat.le_of_ble_eq_true rfl) (JX6_init_0 _ S h)
theorem dX6_sort_0 : decode cX6_sort 0 = .ok (.aload_n 0, 1) := by decide +kernel
theorem dX6_sort_1 : decode cX6_sort 1 = .ok (.iconst 0, 1) := by decide +kernel
theorem dX6_sort_2 : decode cX6_sort 2 = .ok (.putfield 15, 3) := by decide +kernel
theorem dX6_sort_5 : decode cX6_sort 5 = .ok (.aload_n 0, 1) := by decide +kernel
theorem dX6_sort_6 : decode cX6_sort 6 = .ok (.aload_n 1, 1) := by decide +kernel
theorem dX6_sort_7 : decode cX6_sort 7 = .ok (.iconst 0, 1) := by decide +kernel
theorem dX6_sort_8 : decode cX6_sort 8 = .ok (.iconst 1, 1) := by decide +kernel
theorem dX6_sort_9 : decode cX6_sort 9 = .ok (.iconst 2, 1) := by decide +kernel
theorem dX6_sort_10 : decode cX6_sort 10 = .ok (.invokevirtual 19, 3) := by decide +kernel
theorem dX6_sort_13 : decode cX6_sort 13 = .ok (.istore_n 2, 1) := by decide +kernel
theorem dX6_sort_14 : decode cX6_sort 14 = .ok (.aload_n 0, 1) := by decide +kernel
theorem dX6_sort_15 : decode cX6_sort 15 = .ok (.getfield 9, 3) := by decide +kernel
theorem dX6_sort_18 : decode cX6_sort 18 = .ok (.iconst 0, 1) := by decide +kernel
theorem dX6_sort_19 : decode cX6_sort 19 = .ok (.iload_n 2, 1) := by decide +kernel
theorem dX6_sort_20 : decode cX6_sort 20 = .ok (.ifCond .ne 7, 3) := by decide +kernel
theorem dX6_sort_23 : decode cX6_sort 23 = .ok (.iconst 1, 1) := by decide +kernel
theorem dX6_sort_24 : decode cX6_sort 24 = .ok (.goto 4, 3) := by decide +kernel
theorem dX6_sort_27 : decode cX6_sort 27 = .ok (.iconst 0, 1) := by decide +kernel
theorem dX6_sort_28 : decode cX6_sort 28 = .ok (.iastore, 1) := by decide +kernel
theorem dX6_sort_29 : decode cX6_sort 29 = .ok (.aload_n 0, 1) := by decide +kernel
theorem dX6_sort_30 : decode cX6_sort 30 = .ok (.getfield 9, 3) := by decide +kernel
theorem dX6_sort_33 : decode cX6_sort 33 = .ok (.iconst 1, 1) := by decide +kernel
theorem dX6_sort_34 : decode cX6_sort 34 = .ok (.iload_n 2, 1) := by decide +kernel
theorem dX6_sort_35 : decode cX6_sort 35 = .ok (.iastore, 1) := by decide +kernel
theorem dX6_sort_36 : decode cX6_sort 36 = .ok (.aload_n 0, 1) := by decide +kernel
theorem dX6_sort_37 : decode cX6_sort 37 = .ok (.getfield 9, 3) := by decide +kernel
theorem dX6_sort_40 : decode cX6_sort 40 = .ok (.iconst 2, 1) := by decide +kernel
theorem dX6_sort_41 : decode cX6_sort 41 = .ok (.iload_n 2, 1) := by decide +kernel
theorem dX6_sort_42 : decode cX6_sort 42 = .ok (.iconst 2, 1) := by decide +kernel
theorem dX6_sort_43 : decode cX6_sort 43 = .ok (.if_icmp .ne 7, 3) := by decide +kernel
theorem dX6_sort_46 : decode cX6_sort 46 = .ok (.iconst 1, 1) := by decide +kernel
theorem dX6_sort_47 : decode cX6_sort 47 = .ok (.goto 4, 3) := by decide +kernel
theorem dX6_sort_50 : decode cX6_sort 50 = .ok (.iconst 2, 1) := by decide +kernel
theorem dX6_sort_51 : decode cX6_sort 51 = .ok (.iastore, 1) := by decide +kernel
theorem dX6_sort_52 : decode cX6_sort 52 = .ok (.iconst 3, 1) := by decide +kernel
theorem dX6_sort_53 : decode cX6_sort 53 = .ok (.istore_n 3, 1) := by decide +kernel
theorem dX6_sort_54 : decode cX6_sort 54 = .ok (.iload_n 3, 1) := by decide +kernel
theorem dX6_sort_55 : decode cX6_sort 55 = .ok (.aload_n 1, 1) := by decide +kernel
theorem dX6_sort_56 : decode cX6_sort 56 = .ok (.getfield 23, 3) := by decide +kernel
theorem dX6_sort_59 : decode cX6_sort 59 = .ok (.if_icmp .ge 66, 3) := by decide +kernel
theorem dX6_sort_62 : decode cX6_sort 62 = .ok (.iload_n 3, 1) := by decide +kernel
theorem dX6_sort_63 : decode cX6_sort 63 = .ok (.aload_n 0, 1) := by decide +kernel
theorem dX6_sort_64 : decode cX6_sort 64 = .ok (.getfield 9, 3) := by decide +kernel
theorem dX6_sort_67 : decode cX6_sort 67 = .ok (.arraylength, 1) := by decide +kernel
theorem dX6_sort_68 : decode cX6_sort 68 = .ok (.if_icmp .ge 57, 3) := by decide +kernel
theorem dX6_sort_71 : decode cX6_sort 71 = .ok (.aload_n 0, 1) := by decide +kernel
theorem dX6_sort_72 : decode cX6_sort 72 = .ok (.aload_n 1, 1) := by decide +kernel
theorem dX6_sort_73 : decode cX6_sort 73 = .ok (.iload_n 3, 1) := by decide +kernel
theorem dX6_sort_74 : decode cX6_sort 74 = .ok (.invokevirtual 28, 3) := by decide +kernel
theorem dX6_sort_77 : decode cX6_sort 77 = .ok (.istore 4, 2) := by decide +kernel
theorem dX6_sort_79 : decode cX6_sort 79 = .ok (.iload_n 3, 1) := by decide +kernel
theorem dX6_sort_80 : decode cX6_sort 80 = .ok (.istore 5, 2) := by decide +kernel
theorem dX6_sort_82 : decode cX6_sort 82 = .ok (.iload 5, 2) := by decide +kernel
theorem dX6_sort_84 : decode cX6_sort 84 = .ok (.iload 4, 2) := by decide +kernel
theorem dX6_sort_86 : decode cX6_sort 86 = .ok (.if_icmp .le 25, 3) := by decide +kernel
theorem dX6_sort_89 : decode cX6_sort 89 = .ok (.aload_n 0, 1) := by decide +kernel
theorem dX6_sort_90 : decode cX6_sort 90 = .ok (.getfield 9, 3) := by decide +kernel
theorem dX6_sort_93 : decode cX6_sort 93 = .ok (.iload 5, 2) := by decide +kernel
theorem dX6_sort_95 : decode cX6_sort 95 = .ok (.aload_n 0, 1) := by decide +kernel
theorem dX6_sort_96 : decode cX6_sort 96 = .ok (.getfield 9, 3) := by decide +kernel
theorem dX6_sort_99 : decode cX6_sort 99 = .ok (.iload 5, 2) := by decide +kernel
theorem dX6_sort_101 : decode cX6_sort 101 = .ok (.iconst 1, 1) := by decide +kernel
theorem dX6_sort_102 : decode cX6_sort 102 = .ok (.isub, 1) := by decide +kernel
theorem dX6_sort_103 : decode cX6_sort 103 = .ok (.iaload, 1) := by decide +kernel
theorem dX6_sort_104 : decode cX6_sort 104 = .ok (.iastore, 1) := by decide +kernel
theorem dX6_sort_105 : decode cX6_sort 105 = .ok (.iinc 5 (-1), 3) := by decide +kernel
theorem dX6_sort_108 : decode cX6_sort 108 = .ok (.goto (-26), 3) := by decide +kernel
theorem dX6_sort_111 : decode cX6_sort 111 = .ok (.aload_n 0, 1) := by decide +kernel
theorem dX6_sort_112 : decode cX6_sort 112 = .ok (.getfield 9, 3) := by decide +kernel
theorem dX6_sort_115 : decode cX6_sort 115 = .ok (.iload 4, 2) := by decide +kernel
theorem dX6_sort_117 : decode cX6_sort 117 = .ok (.iload_n 3, 1) := by decide +kernel
theorem dX6_sort_118 : decode cX6_sort 118 = .ok (.iastore, 1) := by decide +kernel
theorem dX6_sort_119 : decode cX6_sort 119 = .ok (.iinc 3 1, 3) := by decide +kernel
theorem dX6_sort_122 : decode cX6_sort 122 = .ok (.goto (-68), 3) := by decide +kernel
theorem dX6_sort_125 : decode cX6_sort 125 = .ok (.return_, 1) := by decide +kernel
def VX6_sort_82 (d : Nat) (c54 : Nat → Nat → Int → MS → Prop) (Q : Out → MS → Prop) : Nat → Nat → Nat → Int → Int → Int → MS → Prop
  | 0, _, _, _, _, _, _ => False
  | n + 1, x0, x1, x3, x4, x5, S => (R32 x5 ∧ R32 x4) ∧ ((x5 ≤ x4) → S.K x0 = 6 ∧ ∃ b1, S.R x0 0 = some b1 ∧ ((S.K b1 = 13 ∧ 0 ≤ x4 ∧ x4 < S.N b1) ∧ (c54 x0 x1 (x3 + 1) (S.setI b1 (x4).toNat x3)))) ∧ (¬ (x5 ≤ x4) → S.K x0 = 6 ∧ ∃ b2, S.R x0 0 = some b2 ∧ (S.K x0 = 6 ∧ ∃ b3, S.R x0 0 = some b3 ∧ ((S.K b3 = 13 ∧ 0 ≤ (x5 - 1) ∧ (x5 - 1) < S.N b3) ∧ ((S.K b2 = 13 ∧ 0 ≤ x5 ∧ x5 < S.N b2) ∧ ((VX6_sort_82 d c54 Q n) x0 x1 x3 x4 (x5 + (-1)) (S.setI b2 (x5).toNat (S.I b3 ((x5 - 1)).toNat)))))))
theorem JX6_sort_82 {d : Nat} {c54 : Nat → Nat → Int → MS → Prop} {S0 : MS} {Q : Out → MS → Prop} (hc54 : ∀ (x0 : Nat) (x1 : Nat) (x3 : Int) (S : MS), c54 x0 x1 x3 S → Jw FinM RX6 cX6_sort 6 none [] yX6_sort (d + 1) S0 S 54 [(0, vA x0), (1, vA x1), (3, vI x3)] [] Q) : ∀ (n : Nat) (x0 : Nat) (x1 : Nat) (x3 : Int) (x4 : Int) (x5 : Int) (S : MS), VX6_sort_82 d c54 Q n x0 x1 x3 x4 x5 S → Jw FinM RX6 cX6_sort 6 none [] yX6_sort (d + 1) S0 S 82 [(0, vA x0), (1, vA x1), (3, vI x3), (4, vI x4), (5, vI x5)] [] Q := by
  intro n
  induction n with
  | zero => intro x0 x1 x3 x4 x5 S h; exact h.elim
  | succ n ih =>
    intro x0 x1 x3 x4 x5 S h
    exact j_iload 4 dX6_sort_82 rfl (j_iload 3 dX6_sort_84 rfl (j_icmp_le (tgt := 111) dX6_sort_86 (by decide) h (fun h => j_aload_n 0 dX6_sort_111 rfl (j_getR 6 0 f_RX6_9 dX6_sort_112 h (fun b1 h => j_iload 3 dX6_sort_115 rfl (j_iload_n 2 dX6_sort_117 rfl (j_iast dX6_sort_118 h (fun h => j_iinc 2 (lv2 := [(3, vI (x3 + 1)), (0, vA x0), (1, vA x1), (4, vI x4), (5, vI x5)]) dX6_sort_119 rfl (by decide) rfl (j_goto (tgt := 54) dX6_sort_122 (by decide) (j_sub [1, 2, 0] rfl (hc54 _ _ _ _ h))))))))) (fun h => j_aload_n 0 dX6_sort_89 rfl (j_getR 6 0 f_RX6_9 dX6_sort_90 h (fun b2 h => j_iload 4 dX6_sort_93 rfl (j_aload_n 0 dX6_sort_95 rfl (j_getR 6 0 f_RX6_9 dX6_sort_96 h (fun b3 h => j_iload 4 dX6_sort_99 rfl (j_iconst dX6_sort_101 (j_isub dX6_sort_102 (j_iald dX6_sort_103 h (fun h => j_iast dX6_sort_104 h (fun h => j_iinc 4 (lv2 := [(5, vI (x5 + (-1))), (0, vA x0), (1, vA x1), (3, vI x3), (4, vI x4)]) dX6_sort_105 rfl (by decide) rfl (j_goto (tgt := 82) dX6_sort_108 (by decide) (j_sub [1, 2, 3, 4, 0] rfl (ih _ _ _ _ _ _ h))))))))))))))))
def VX6_sort_54 (d : Nat) (Q : Out → MS → Prop) : Nat → Nat → Nat → Int → MS → Prop
  | 0, _, _, _, _ => False
  | n + 1, x0, x1, x3, S => S.K x1 = 7 ∧ ((R32 x3 ∧ R32 (S.I x1 7)) ∧ (((S.I x1 7) ≤ x3) → Q (.inl none) S) ∧ (¬ ((S.I x1 7) ≤ x3) → S.K x0 = 6 ∧ ∃ b1, S.R x0 0 = some b1 ∧ ((12 ≤ S.K b1 ∧ S.K b1 < 21) ∧ ((R32 x3 ∧ R32 ((S.N b1 : Int))) ∧ ((((S.N b1 : Int)) ≤ x3) → Q (.inl none) S) ∧ (¬ (((S.N b1 : Int)) ≤ x3) → S.K x0 = 6 ∧ Mw hX6_placeOf yX6_placeOf d [vA x0, vA x1, vI x3] S (oI (fun r2 S2 => ∃ m, VX6_sort_82 d (VX6_sort_54 d Q n) Q m x0 x1 x3 r2 x3 S2)))))))
theorem JX6_sort_54 {d : Nat} {S0 : MS} {Q : Out → MS → Prop} : ∀ (n : Nat) (x0 : Nat) (x1 : Nat) (x3 : Int) (S : MS), VX6_sort_54 d Q n x0 x1 x3 S → Jw FinM RX6 cX6_sort 6 none [] yX6_sort (d + 1) S0 S 54 [(0, vA x0), (1, vA x1), (3, vI x3)] [] Q := by
  intro n
  induction n with
  | zero => intro x0 x1 x3 S h; exact h.elim
  | succ n ih =>
    intro x0 x1 x3 S h
    exact j_iload_n 2 dX6_sort_54 rfl (j_aload_n 1 dX6_sort_55 rfl (j_getI 7 7 f_RX6_23 dX6_sort_56 h (fun h => j_icmp_ge (tgt := 125) dX6_sort_59 (by decide) h (fun h => j_vret rfl dX6_sort_125 h) (fun h => j_iload_n 2 dX6_sort_62 rfl (j_aload_n 0 dX6_sort_63 rfl (j_getR 6 0 f_RX6_9 dX6_sort_64 h (fun b1 h => j_alen dX6_sort_67 h (fun h => j_icmp_ge (tgt := 125) dX6_sort_68 (by decide) h (fun h => j_vret rfl dX6_sort_125 h) (fun h => j_aload_n 0 dX6_sort_71 rfl (j_aload_n 1 dX6_sort_72 rfl (j_iload_n 2 dX6_sort_73 rfl (j_callV (rest := []) 6 [vA x1, vI x3] k_RX6_28 ⟨w_6_137, p_3_9⟩ ⟨_, _, rfl⟩ (by decide) rfl rfl (Nat.le_of_ble_eq_true rfl) dX6_sort_74 h (kI (fun r2 S2 h => j_istore (lv2 := [(4, vI r2), (0, vA x0), (1, vA x1), (3, vI x3)]) dX6_sort_77 (by decide) rfl (j_iload_n 3 dX6_sort_79 rfl (j_istore (lv2 := [(5, vI x3), (4, vI r2), (0, vA x0), (1, vA x1), (3, vI x3)]) dX6_sort_80 (by decide) rfl (Exists.elim h (fun m h => j_sub [2, 3, 4, 1, 0] rfl (JX6_sort_82 ih m _ _ _ _ _ _ h))))))) (fun _ _ h => h.elim)))))))))))))
def VX6_sort_51 (d : Nat) (Q : Out → MS → Prop) (x0 : Nat) (x1 : Nat) (t0 : Int) (t1 : Int) (t2 : Nat) (S : MS) : Prop :=
  (S.K t2 = 13 ∧ 0 ≤ t1 ∧ t1 < S.N t2) ∧ (∃ m, VX6_sort_54 d Q m x0 x1 3 (S.setI t2 (t1).toNat t0))
theorem JX6_sort_51 {d : Nat} {S0 : MS} {Q : Out → MS → Prop} (x0 : Nat) (x1 : Nat) (t0 : Int) (t1 : Int) (t2 : Nat) (S : MS) (h : VX6_sort_51 d Q x0 x1 t0 t1 t2 S) : Jw FinM RX6 cX6_sort 6 none [] yX6_sort (d + 1) S0 S 51 [(0, vA x0), (1, vA x1)] [vI t0, vI t1, vA t2] Q :=
  j_iast dX6_sort_51 h (fun h => j_iconst dX6_sort_52 (j_istore_n (lv2 := [(3, vI 3), (0, vA x0), (1, vA x1)]) dX6_sort_53 (by decide) rfl (Exists.elim h (fun m h => j_sub [1, 2, 0] rfl (JX6_sort_54 m _ _ _ _ h)))))
def VX6_sort_28 (d : Nat) (Q : Out → MS → Prop) (x0 : Nat) (x1 : Nat) (x2 : Int) (t0 : Int) (t1 : Int) (t2 : Nat) (S : MS) : Prop :=
  (S.K t2 = 13 ∧ 0 ≤ t1 ∧ t1 < S.N t2) ∧ ((S.setI t2 (t1).toNat t0).K x0 = 6 ∧ ∃ b1, (S.setI t2 (t1).toNat t0).R x0 0 = some b1 ∧ (((S.setI t2 (t1).toNat t0).K b1 = 13 ∧ 0 ≤ (1 : Int) ∧ (1 : Int) < (S.setI t2 (t1).toNat t0).N b1) ∧ (((S.setI t2 (t1).toNat t0).setI b1 ((1 : Int)).toNat x2).K x0 = 6 ∧ ∃ b2, ((S.setI t2 (t1).toNat t0).setI b1 ((1 : Int)).toNat x2).R x0 0 = some b2 ∧ ((R32 x2 ∧ R32 (2 : Int)) ∧ (¬ (x2 = (2 : Int)) → VX6_sort_51 d Q x0 x1 2 2 b2 ((S.setI t2 (t1).toNat t0).setI b1 ((1 : Int)).toNat x2)) ∧ ((x2 = (2 : Int)) → VX6_sort_51 d Q x0 x1 1 2 b2 ((S.setI t2 (t1).toNat t0).setI b1 ((1 : Int)).toNat x2))))))
theorem JX6_sort_28 {d : Nat} {S0 : MS} {Q : Out → MS → Prop} (x0 : Nat) (x1 : Nat) (x2 : Int) (t0 : Int) (t1 : Int) (t2 : Nat) (S : MS) (h : VX6_sort_28 d Q x0 x1 x2 t0 t1 t2 S) : Jw FinM RX6 cX6_sort 6 none [] yX6_sort (d + 1) S0 S 28 [(0, vA x0), (1, vA x1), (2, vI x2)] [vI t0, vI t1, vA t2] Q :=
  j_iast dX6_sort_28 h (fun h => j_aload_n 0 dX6_sort_29 rfl (j_getR 6 0 f_RX6_9 dX6_sort_30 h (fun b1 h => j_iconst dX6_sort_33 (j_iload_n 2 dX6_sort_34 rfl (j_iast dX6_sort_35 h (fun h => j_aload_n 0 dX6_sort_36 rfl (j_getR 6 0 f_RX6_9 dX6_sort_37 h (fun b2 h => j_iconst dX6_sort_40 (j_iload_n 2 dX6_sort_41 rfl (j_iconst dX6_sort_42 (j_icmp_ne (tgt := 50) dX6_sort_43 (by decide) h (fun h => j_iconst dX6_sort_50 (j_sub [0, 1] rfl (JX6_sort_51 _ _ _ _ _ _ h))) (fun h => j_iconst dX6_sort_46 (j_goto (tgt := 51) dX6_sort_47 (by decide) (j_sub [0, 1] rfl (JX6_sort_51 _ _ _ _ _ _ h)))))))))))))))
def VX6_sort_0 (d : Nat) (Q : Out → MS → Prop) (x0 : Nat) (x1 : Nat) (S : MS) : Prop :=
  S.K x0 = 6 ∧ ((S.setI x0 1 0).K x0 = 6 ∧ Mw hX6_lift yX6_lift d [vA x0, vA x1, vI 0, vI 1, vI 2] (S.setI x0 1 0) (oI (fun r1 S1 => S1.K x0 = 6 ∧ ∃ b2, S1.R x0 0 = some b2 ∧ (R32 r1 ∧ (¬ (r1 = 0) → VX6_sort_28 d Q x0 x1 r1 0 0 b2 S1) ∧ ((r1 = 0) → VX6_sort_28 d Q x0 x1 r1 1 0 b2 S1)))))
theorem JX6_sort_0 {d : Nat} {S0 : MS} {Q : Out → MS → Prop} (x0 : Nat) (x1 : Nat) (S : MS) (h : VX6_sort_0 d Q x0 x1 S) : Jw FinM RX6 cX6_sort 6 none [] yX6_sort (d + 1) S0 S 0 [(0, vA x0), (1, vA x1)] [] Q :=
  j_aload_n 0 dX6_sort_0 rfl (j_iconst dX6_sort_1 (j_putI 6 1 f_RX6_15 dX6_sort_2 h (fun h => j_aload_n 0 dX6_sort_5 rfl (j_aload_n 1 dX6_sort_6 rfl (j_iconst dX6_sort_7 (j_iconst dX6_sort_8 (j_iconst dX6_sort_9 (j_callV (rest := []) 6 [vA x1, vI 0, vI 1, vI 2] k_RX6_19 ⟨w_6_132, p_3_8⟩ ⟨_, _, rfl⟩ (by decide) rfl rfl (Nat.le_of_ble_eq_true rfl) dX6_sort_10 h (kI (fun r1 S1 h => j_istore_n (lv2 := [(2, vI r1), (0, vA x0), (1, vA x1)]) dX6_sort_13 (by decide) rfl (j_aload_n 1 dX6_sort_14 rfl (j_getR 6 0 f_RX6_9 dX6_sort_15 h (fun b2 h => j_iconst dX6_sort_18 (j_iload_n 0 dX6_sort_19 rfl (j_if_ne (tgt := 27) dX6_sort_20 (by decide) h (fun h => j_iconst dX6_sort_27 (j_sub [1, 2, 0] rfl (JX6_sort_28 _ _ _ _ _ _ _ h))) (fun h => j_iconst dX6_sort_23 (j_goto (tgt := 28) dX6_sort_24 (by decide) (j_sub [1, 2, 0] rfl (JX6_sort_28 _ _ _ _ _ _ _ h))))))))))) (fun _ _ h => h.elim)))))))))
theorem MX6_sort {d : Nat} {x0 : Nat} {x1 : Nat} {S : MS} {Q : Out → MS → Prop} (h : VX6_sort_0 d Q x0 x1 S) : Mw hX6_sort yX6_sort (d + 1) [vA x0, vA x1] S Q := Mw.ofJ (by decide) (Nat.le_of_ble_eq_true rfl) (JX6_sort_0 _ _ S h)
theorem dX6_lift_0 : decode cX6_lift 0 = .ok (.aload_n 0, 1) := by decide +kernel
theorem dX6_lift_1 : decode cX6_lift 1 = .ok (.dup, 1) := by decide +kernel
theorem dX6_lift_2 : decode cX6_lift 2 = .ok (.getfield 15, 3) := by decide +kernel
theorem dX6_lift_5 : decode cX6_lift 5 = .ok (.iconst 1, 1) := by decide +kernel
theorem dX6_lift_6 : decode cX6_lift 6 = .ok (.iadd, 1) := by decide +kernel
theorem dX6_lift_7 : decode cX6_lift 7 = .ok (.putfield 15, 3) := by decide +kernel
theorem dX6_lift_10 : decode cX6_lift 10 = .ok (.aload_n 1, 1) := by decide +kernel
theorem dX6_lift_11 : decode cX6_lift 11 = .ok (.iconst 0, 1) := by decide +kernel
theorem dX6_lift_12 : decode cX6_lift 12 = .ok (.iconst 1, 1) := by decide +kernel
theorem dX6_lift_13 : decode cX6_lift 13 = .ok (.iload_n 2, 1) := by decide +kernel
theorem dX6_lift_14 : decode cX6_lift 14 = .ok (.ishl, 1) := by decide +kernel
theorem dX6_lift_15 : decode cX6_lift 15 = .ok (.iconst 1, 1) := by decide +kernel
theorem dX6_lift_16 : decode cX6_lift 16 = .ok (.iload_n 3, 1) := by decide +kernel
theorem dX6_lift_17 : decode cX6_lift 17 = .ok (.ishl, 1) := by decide +kernel
theorem dX6_lift_18 : decode cX6_lift 18 = .ok (.ior, 1) := by decide +kernel
theorem dX6_lift_19 : decode cX6_lift 19 = .ok (.iconst 1, 1) := by decide +kernel
theorem dX6_lift_20 : decode cX6_lift 20 = .ok (.iload 4, 2) := by decide +kernel
theorem dX6_lift_22 : decode cX6_lift 22 = .ok (.ishl, 1) := by decide +kernel
theorem dX6_lift_23 : decode cX6_lift 23 = .ok (.ior, 1) := by decide +kernel
theorem dX6_lift_24 : decode cX6_lift 24 = .ok (.invokevirtual 32, 3) := by decide +kernel
theorem dX6_lift_27 : decode cX6_lift 27 = .ok (.ireturn, 1) := by decide +kernel
def VX6_lift_0 (d : Nat) (Q : Out → MS → Prop) (x0 : Nat) (x1 : Nat) (x2 : Int) (x3 : Int) (x4 : Int) (S : MS) : Prop :=
  S.K x0 = 6 ∧ (S.K x0 = 6 ∧ ((S.setI x0 1 ((S.I x0 1) + 1)).K x1 = 7 ∧ Mw hX7_riser yX7_riser d [vA x1, vI 0, vI (iOr (iOr (iShl 1 x2) (iShl 1 x3)) (iShl 1 x4))] (S.setI x0 1 ((S.I x0 1) + 1)) (oI (fun r1 S1 => Q (.inl (some (vI r1))) S1))))
theorem JX6_lift_0 {d : Nat} {S0 : MS} {Q : Out → MS → Prop} (x0 : Nat) (x1 : Nat) (x2 : Int) (x3 : Int) (x4 : Int) (S : MS) (h : VX6_lift_0 d Q x0 x1 x2 x3 x4 S) : Jw FinM RX6 cX6_lift 5 (some .int) [] yX6_lift (d + 1) S0 S 0 [(0, vA x0), (1, vA x1), (2, vI x2), (3, vI x3), (4, vI x4)] [] Q :=
  j_aload_n 0 dX6_lift_0 rfl (j_dup rfl dX6_lift_1 (j_getI 6 1 f_RX6_15 dX6_lift_2 h (fun h => j_iconst dX6_lift_5 (j_iadd dX6_lift_6 (j_putI 6 1 f_RX6_15 dX6_lift_7 h (fun h => j_aload_n 1 dX6_lift_10 rfl (j_iconst dX6_lift_11 (j_iconst dX6_lift_12 (j_iload_n 2 dX6_lift_13 rfl (j_ishl dX6_lift_14 (j_iconst dX6_lift_15 (j_iload_n 3 dX6_lift_16 rfl (j_ishl dX6_lift_17 (j_ior dX6_lift_18 (j_iconst dX6_lift_19 (j_iload 4 dX6_lift_20 rfl (j_ishl dX6_lift_22 (j_ior dX6_lift_23 (j_callV (rest := []) 7 [vI 0, vI (iOr (iOr (iShl 1 x2) (iShl 1 x3)) (iShl 1 x4))] k_RX6_32 ⟨w_4_13, w_4_14⟩ ⟨_, _, rfl⟩ (by decide) rfl rfl (Nat.le_of_ble_eq_true rfl) dX6_lift_24 h (kI (fun r1 S1 h => j_iret rfl dX6_lift_27 h)) (fun _ _ h => h.elim))))))))))))))))))))
theorem MX6_lift {d : Nat} {x0 : Nat} {x1 : Nat} {x2 : Int} {x3 : Int} {x4 : Int} {S : MS} {Q : Out → MS → Prop} (h : VX6_lift_0 d Q x0 x1 x2 x3 x4 S) : Mw hX6_lift yX6_lift (d + 1) [vA x0, vA x1, vI x2, vI x3, vI x4] S Q := Mw.ofJ (by decide) (Nat.le_of_ble_eq_true rfl) (JX6_lift_0 _ _ _ _ _ S h)
theorem dX6_placeOf_0 : decode cX6_placeOf 0 = .ok (.iconst 0, 1) := by decide +kernel
theorem dX6_placeOf_1 : decode cX6_placeOf 1 = .ok (.istore_n 3, 1) := by decide +kernel
theorem dX6_placeOf_2 : decode cX6_placeOf 2 = .ok (.iload_n 2, 1) := by decide +kernel
theorem dX6_placeOf_3 : decode cX6_placeOf 3 = .ok (.istore 4, 2) := by decide +kernel
theorem dX6_placeOf_5 : decode cX6_placeOf 5 = .ok (.iconst 0, 1) := by decide +kernel
theorem dX6_placeOf_6 : decode cX6_placeOf 6 = .ok (.istore 5, 2) := by decide +kernel
theorem dX6_placeOf_8 : decode cX6_placeOf 8 = .ok (.iload 5, 2) := by decide +kernel
theorem dX6_placeOf_10 : decode cX6_placeOf 10 = .ok (.bipush 7, 2) := by decide +kernel
theorem dX6_placeOf_12 : decode cX6_placeOf 12 = .ok (.if_icmp .ge 191, 3) := by decide +kernel
theorem dX6_placeOf_15 : decode cX6_placeOf 15 = .ok (.iload_n 3, 1) := by decide +kernel
theorem dX6_placeOf_16 : decode cX6_placeOf 16 = .ok (.iload 4, 2) := by decide +kernel
theorem dX6_placeOf_18 : decode cX6_placeOf 18 = .ok (.if_icmp .ge 185, 3) := by decide +kernel
theorem dX6_placeOf_21 : decode cX6_placeOf 21 = .ok (.iload 4, 2) := by decide +kernel
theorem dX6_placeOf_23 : decode cX6_placeOf 23 = .ok (.iload_n 3, 1) := by decide +kernel
theorem dX6_placeOf_24 : decode cX6_placeOf 24 = .ok (.iconst 1, 1) := by decide +kernel
theorem dX6_placeOf_25 : decode cX6_placeOf 25 = .ok (.iadd, 1) := by decide +kernel
theorem dX6_placeOf_26 : decode cX6_placeOf 26 = .ok (.if_icmp .ne 82, 3) := by decide +kernel
theorem dX6_placeOf_29 : decode cX6_placeOf 29 = .ok (.iload_n 3, 1) := by decide +kernel
theorem dX6_placeOf_30 : decode cX6_placeOf 30 = .ok (.iconst 1, 1) := by decide +kernel
theorem dX6_placeOf_31 : decode cX6_placeOf 31 = .ok (.invokestatic 36, 3) := by decide +kernel
theorem dX6_placeOf_34 : decode cX6_placeOf 34 = .ok (.istore 6, 2) := by decide +kernel
theorem dX6_placeOf_36 : decode cX6_placeOf 36 = .ok (.aload_n 0, 1) := by decide +kernel
theorem dX6_placeOf_37 : decode cX6_placeOf 37 = .ok (.aload_n 1, 1) := by decide +kernel
theorem dX6_placeOf_38 : decode cX6_placeOf 38 = .ok (.iload_n 2, 1) := by decide +kernel
theorem dX6_placeOf_39 : decode cX6_placeOf 39 = .ok (.aload_n 0, 1) := by decide +kernel
theorem dX6_placeOf_40 : decode cX6_placeOf 40 = .ok (.getfield 9, 3) := by decide +kernel
theorem dX6_placeOf_43 : decode cX6_placeOf 43 = .ok (.iload 6, 2) := by decide +kernel
theorem dX6_placeOf_45 : decode cX6_placeOf 45 = .ok (.iconst 1, 1) := by decide +kernel
theorem dX6_placeOf_46 : decode cX6_placeOf 46 = .ok (.isub, 1) := by decide +kernel
theorem dX6_placeOf_47 : decode cX6_placeOf 47 = .ok (.iaload, 1) := by decide +kernel
theorem dX6_placeOf_48 : decode cX6_placeOf 48 = .ok (.aload_n 0, 1) := by decide +kernel
theorem dX6_placeOf_49 : decode cX6_placeOf 49 = .ok (.getfield 9, 3) := by decide +kernel
theorem dX6_placeOf_52 : decode cX6_placeOf 52 = .ok (.iload 6, 2) := by decide +kernel
theorem dX6_placeOf_54 : decode cX6_placeOf 54 = .ok (.iaload, 1) := by decide +kernel
theorem dX6_placeOf_55 : decode cX6_placeOf 55 = .ok (.invokevirtual 19, 3) := by decide +kernel
theorem dX6_placeOf_58 : decode cX6_placeOf 58 = .ok (.iload_n 2, 1) := by decide +kernel
theorem dX6_placeOf_59 : decode cX6_placeOf 59 = .ok (.if_icmp .ne 7, 3) := by decide +kernel
theorem dX6_placeOf_62 : decode cX6_placeOf 62 = .ok (.iconst 1, 1) := by decide +kernel
theorem dX6_placeOf_63 : decode cX6_placeOf 63 = .ok (.goto 4, 3) := by decide +kernel
theorem dX6_placeOf_66 : decode cX6_placeOf 66 = .ok (.iconst 0, 1) := by decide +kernel
theorem dX6_placeOf_67 : decode cX6_placeOf 67 = .ok (.istore 7, 2) := by decide +kernel
theorem dX6_placeOf_69 : decode cX6_placeOf 69 = .ok (.iload_n 3, 1) := by decide +kernel
theorem dX6_placeOf_70 : decode cX6_placeOf 70 = .ok (.ifCond .ne 16, 3) := by decide +kernel
theorem dX6_placeOf_73 : decode cX6_placeOf 73 = .ok (.iload 7, 2) := by decide +kernel
theorem dX6_placeOf_75 : decode cX6_placeOf 75 = .ok (.ifCond .ne 7, 3) := by decide +kernel
theorem dX6_placeOf_78 : decode cX6_placeOf 78 = .ok (.iconst 1, 1) := by decide +kernel
theorem dX6_placeOf_79 : decode cX6_placeOf 79 = .ok (.goto 9, 3) := by decide +kernel
theorem dX6_placeOf_82 : decode cX6_placeOf 82 = .ok (.iconst 0, 1) := by decide +kernel
theorem dX6_placeOf_83 : decode cX6_placeOf 83 = .ok (.goto 5, 3) := by decide +kernel
theorem dX6_placeOf_86 : decode cX6_placeOf 86 = .ok (.iload 7, 2) := by decide +kernel
theorem dX6_placeOf_88 : decode cX6_placeOf 88 = .ok (.istore 8, 2) := by decide +kernel
theorem dX6_placeOf_90 : decode cX6_placeOf 90 = .ok (.iload 8, 2) := by decide +kernel
theorem dX6_placeOf_92 : decode cX6_placeOf 92 = .ok (.ifCond .eq 7, 3) := by decide +kernel
theorem dX6_placeOf_95 : decode cX6_placeOf 95 = .ok (.iload_n 3, 1) := by decide +kernel
theorem dX6_placeOf_96 : decode cX6_placeOf 96 = .ok (.goto 5, 3) := by decide +kernel
theorem dX6_placeOf_99 : decode cX6_placeOf 99 = .ok (.iload 4, 2) := by decide +kernel
theorem dX6_placeOf_101 : decode cX6_placeOf 101 = .ok (.istore_n 3, 1) := by decide +kernel
theorem dX6_placeOf_102 : decode cX6_placeOf 102 = .ok (.iload_n 3, 1) := by decide +kernel
theorem dX6_placeOf_103 : decode cX6_placeOf 103 = .ok (.istore 4, 2) := by decide +kernel
theorem dX6_placeOf_105 : decode cX6_placeOf 105 = .ok (.goto 92, 3) := by decide +kernel
theorem dX6_placeOf_108 : decode cX6_placeOf 108 = .ok (.iload 4, 2) := by decide +kernel
theorem dX6_placeOf_110 : decode cX6_placeOf 110 = .ok (.iload_n 3, 1) := by decide +kernel
theorem dX6_placeOf_111 : decode cX6_placeOf 111 = .ok (.isub, 1) := by decide +kernel
theorem dX6_placeOf_112 : decode cX6_placeOf 112 = .ok (.iconst 2, 1) := by decide +kernel
theorem dX6_placeOf_113 : decode cX6_placeOf 113 = .ok (.isub, 1) := by decide +kernel
theorem dX6_placeOf_114 : decode cX6_placeOf 114 = .ok (.iconst 3, 1) := by decide +kernel
theorem dX6_placeOf_115 : decode cX6_placeOf 115 = .ok (.idiv, 1) := by decide +kernel
theorem dX6_placeOf_116 : decode cX6_placeOf 116 = .ok (.istore 6, 2) := by decide +kernel
theorem dX6_placeOf_118 : decode cX6_placeOf 118 = .ok (.iload_n 3, 1) := by decide +kernel
theorem dX6_placeOf_119 : decode cX6_placeOf 119 = .ok (.iload 6, 2) := by decide +kernel
theorem dX6_placeOf_121 : decode cX6_placeOf 121 = .ok (.iadd, 1) := by decide +kernel
theorem dX6_placeOf_122 : decode cX6_placeOf 122 = .ok (.istore 7, 2) := by decide +kernel
theorem dX6_placeOf_124 : decode cX6_placeOf 124 = .ok (.iload 4, 2) := by decide +kernel
theorem dX6_placeOf_126 : decode cX6_placeOf 126 = .ok (.iconst 1, 1) := by decide +kernel
theorem dX6_placeOf_127 : decode cX6_placeOf 127 = .ok (.isub, 1) := by decide +kernel
theorem dX6_placeOf_128 : decode cX6_placeOf 128 = .ok (.iload 6, 2) := by decide +kernel
theorem dX6_placeOf_130 : decode cX6_placeOf 130 = .ok (.isub, 1) := by decide +kernel
theorem dX6_placeOf_131 : decode cX6_placeOf 131 = .ok (.istore 8, 2) := by decide +kernel
theorem dX6_placeOf_133 : decode cX6_placeOf 133 = .ok (.aload_n 0, 1) := by decide +kernel
theorem dX6_placeOf_134 : decode cX6_placeOf 134 = .ok (.aload_n 1, 1) := by decide +kernel
theorem dX6_placeOf_135 : decode cX6_placeOf 135 = .ok (.iload_n 2, 1) := by decide +kernel
theorem dX6_placeOf_136 : decode cX6_placeOf 136 = .ok (.aload_n 0, 1) := by decide +kernel
theorem dX6_placeOf_137 : decode cX6_placeOf 137 = .ok (.getfield 9, 3) := by decide +kernel
theorem dX6_placeOf_140 : decode cX6_placeOf 140 = .ok (.iload 7, 2) := by decide +kernel
theorem dX6_placeOf_142 : decode cX6_placeOf 142 = .ok (.iaload, 1) := by decide +kernel
theorem dX6_placeOf_143 : decode cX6_placeOf 143 = .ok (.aload_n 0, 1) := by decide +kernel
theorem dX6_placeOf_144 : decode cX6_placeOf 144 = .ok (.getfield 9, 3) := by decide +kernel
theorem dX6_placeOf_147 : decode cX6_placeOf 147 = .ok (.iload 8, 2) := by decide +kernel
theorem dX6_placeOf_149 : decode cX6_placeOf 149 = .ok (.iaload, 1) := by decide +kernel
theorem dX6_placeOf_150 : decode cX6_placeOf 150 = .ok (.invokevirtual 19, 3) := by decide +kernel
theorem dX6_placeOf_153 : decode cX6_placeOf 153 = .ok (.istore 9, 2) := by decide +kernel
theorem dX6_placeOf_155 : decode cX6_placeOf 155 = .ok (.iload 9, 2) := by decide +kernel
theorem dX6_placeOf_157 : decode cX6_placeOf 157 = .ok (.aload_n 0, 1) := by decide +kernel
theorem dX6_placeOf_158 : decode cX6_placeOf 158 = .ok (.getfield 9, 3) := by decide +kernel
theorem dX6_placeOf_161 : decode cX6_placeOf 161 = .ok (.iload 7, 2) := by decide +kernel
theorem dX6_placeOf_163 : decode cX6_placeOf 163 = .ok (.iaload, 1) := by decide +kernel
theorem dX6_placeOf_164 : decode cX6_placeOf 164 = .ok (.if_icmp .ne 10, 3) := by decide +kernel
theorem dX6_placeOf_167 : decode cX6_placeOf 167 = .ok (.iload 7, 2) := by decide +kernel
theorem dX6_placeOf_169 : decode cX6_placeOf 169 = .ok (.istore 4, 2) := by decide +kernel
theorem dX6_placeOf_171 : decode cX6_placeOf 171 = .ok (.goto 26, 3) := by decide +kernel
theorem dX6_placeOf_174 : decode cX6_placeOf 174 = .ok (.iload 9, 2) := by decide +kernel
theorem dX6_placeOf_176 : decode cX6_placeOf 176 = .ok (.iload_n 2, 1) := by decide +kernel
theorem dX6_placeOf_177 : decode cX6_placeOf 177 = .ok (.if_icmp .ne 15, 3) := by decide +kernel
theorem dX6_placeOf_180 : decode cX6_placeOf 180 = .ok (.iload 7, 2) := by decide +kernel
theorem dX6_placeOf_182 : decode cX6_placeOf 182 = .ok (.iconst 1, 1) := by decide +kernel
theorem dX6_placeOf_183 : decode cX6_placeOf 183 = .ok (.iadd, 1) := by decide +kernel
theorem dX6_placeOf_184 : decode cX6_placeOf 184 = .ok (.istore_n 3, 1) := by decide +kernel
theorem dX6_placeOf_185 : decode cX6_placeOf 185 = .ok (.iload 8, 2) := by decide +kernel
theorem dX6_placeOf_187 : decode cX6_placeOf 187 = .ok (.istore 4, 2) := by decide +kernel
theorem dX6_placeOf_189 : decode cX6_placeOf 189 = .ok (.goto 8, 3) := by decide +kernel
theorem dX6_placeOf_192 : decode cX6_placeOf 192 = .ok (.iload 8, 2) := by decide +kernel
theorem dX6_placeOf_194 : decode cX6_placeOf 194 = .ok (.iconst 1, 1) := by decide +kernel
theorem dX6_placeOf_195 : decode cX6_placeOf 195 = .ok (.iadd, 1) := by decide +kernel
theorem dX6_placeOf_196 : decode cX6_placeOf 196 = .ok (.istore_n 3, 1) := by decide +kernel
theorem dX6_placeOf_197 : decode cX6_placeOf 197 = .ok (.iinc 5 1, 3) := by decide +kernel
theorem dX6_placeOf_200 : decode cX6_placeOf 200 = .ok (.goto (-192), 3) := by decide +kernel
theorem dX6_placeOf_203 : decode cX6_placeOf 203 = .ok (.iload_n 3, 1) := by decide +kernel
theorem dX6_placeOf_204 : decode cX6_placeOf 204 = .ok (.ireturn, 1) := by decide +kernel
def VX6_placeOf_197 (d : Nat) (c8 : Nat → Nat → Int → Int → Int → Int → MS → Prop) (Q : Out → MS → Prop) (x0 : Nat) (x1 : Nat) (x2 : Int) (x3 : Int) (x4 : Int) (x5 : Int) (S : MS) : Prop :=
  c8 x0 x1 x2 x3 x4 (x5 + 1) S
theorem JX6_placeOf_197 {d : Nat} {c8 : Nat → Nat → Int → Int → Int → Int → MS → Prop} {S0 : MS} {Q : Out → MS → Prop} (hc8 : ∀ (x0 : Nat) (x1 : Nat) (x2 : Int) (x3 : Int) (x4 : Int) (x5 : Int) (S : MS), c8 x0 x1 x2 x3 x4 x5 S → Jw FinM RX6 cX6_placeOf 10 (some .int) [] yX6_placeOf (d + 1) S0 S 8 [(0, vA x0), (1, vA x1), (2, vI x2), (3, vI x3), (4, vI x4), (5, vI x5)] [] Q) (x0 : Nat) (x1 : Nat) (x2 : Int) (x3 : Int) (x4 : Int) (x5 : Int) (S : MS) (h : VX6_placeOf_197 d c8 Q x0 x1 x2 x3 x4 x5 S) : Jw FinM RX6 cX6_placeOf 10 (some .int) [] yX6_placeOf (d + 1) S0 S 197 [(0, vA x0), (1, vA x1), (2, vI x2), (3, vI x3), (4, vI x4), (5, vI x5)] [] Q :=
  j_iinc 5 (lv2 := [(5, vI (x5 + 1)), (0, vA x0), (1, vA x1), (2, vI x2), (3, vI x3), (4, vI x4)]) dX6_placeOf_197 rfl (by decide) rfl (j_goto (tgt := 8) dX6_placeOf_200 (by decide) (j_sub [1, 2, 3, 4, 5, 0] rfl (hc8 _ _ _ _ _ _ _ h)))
def VX6_placeOf_101 (d : Nat) (c8 : Nat → Nat → Int → Int → Int → Int → MS → Prop) (Q : Out → MS → Prop) (x0 : Nat) (x1 : Nat) (x2 : Int) (x5 : Int) (t0 : Int) (S : MS) : Prop :=
  VX6_placeOf_197 d c8 Q x0 x1 x2 t0 t0 x5 S
theorem JX6_placeOf_101 {d : Nat} {c8 : Nat → Nat → Int → Int → Int → Int → MS → Prop} {S0 : MS} {Q : Out → MS → Prop} (hc8 : ∀ (x0 : Nat) (x1 : Nat) (x2 : Int) (x3 : Int) (x4 : Int) (x5 : Int) (S : MS), c8 x0 x1 x2 x3 x4 x5 S → Jw FinM RX6 cX6_placeOf 10 (some .int) [] yX6_placeOf (d + 1) S0 S 8 [(0, vA x0), (1, vA x1), (2, vI x2), (3, vI x3), (4, vI x4), (5, vI x5)] [] Q) (x0 : Nat) (x1 : Nat) (x2 : Int) (x5 : Int) (t0 : Int) (S : MS) (h : VX6_placeOf_101 d c8 Q x0 x1 x2 x5 t0 S) : Jw FinM RX6 cX6_placeOf 10 (some .int) [] yX6_placeOf (d + 1) S0 S 101 [(0, vA x0), (1, vA x1), (2, vI x2), (5, vI x5)] [vI t0] Q :=
  j_istore_n (lv2 := [(3, vI t0), (0, vA x0), (1, vA x1), (2, vI x2), (5, vI x5)]) dX6_placeOf_101 (by decide) rfl (j_iload_n 0 dX6_placeOf_102 rfl (j_istore (lv2 := [(4, vI t0), (3, vI t0), (0, vA x0), (1, vA x1), (2, vI x2), (5, vI x5)]) dX6_placeOf_103 (by decide) rfl (j_goto (tgt := 197) dX6_placeOf_105 (by decide) (j_sub [2, 3, 4, 1, 0, 5] rfl (JX6_placeOf_197 hc8 _ _ _ _ _ _ _ h)))))
def VX6_placeOf_88 (d : Nat) (c8 : Nat → Nat → Int → Int → Int → Int → MS → Prop) (Q : Out → MS → Prop) (x0 : Nat) (x1 : Nat) (x2 : Int) (x3 : Int) (x4 : Int) (x5 : Int) (t0 : Int) (S : MS) : Prop :=
  R32 t0 ∧ ((t0 = 0) → VX6_placeOf_101 d c8 Q x0 x1 x2 x5 x4 S) ∧ (¬ (t0 = 0) → VX6_placeOf_101 d c8 Q x0 x1 x2 x5 x3 S)
theorem JX6_placeOf_88 {d : Nat} {c8 : Nat → Nat → Int → Int → Int → Int → MS → Prop} {S0 : MS} {Q : Out → MS → Prop} (hc8 : ∀ (x0 : Nat) (x1 : Nat) (x2 : Int) (x3 : Int) (x4 : Int) (x5 : Int) (S : MS), c8 x0 x1 x2 x3 x4 x5 S → Jw FinM RX6 cX6_placeOf 10 (some .int) [] yX6_placeOf (d + 1) S0 S 8 [(0, vA x0), (1, vA x1), (2, vI x2), (3, vI x3), (4, vI x4), (5, vI x5)] [] Q) (x0 : Nat) (x1 : Nat) (x2 : Int) (x3 : Int) (x4 : Int) (x5 : Int) (t0 : Int) (S : MS) (h : VX6_placeOf_88 d c8 Q x0 x1 x2 x3 x4 x5 t0 S) : Jw FinM RX6 cX6_placeOf 10 (some .int) [] yX6_placeOf (d + 1) S0 S 88 [(0, vA x0), (1, vA x1), (2, vI x2), (3, vI x3), (4, vI x4), (5, vI x5)] [vI t0] Q :=
  j_istore (lv2 := [(8, vI t0), (0, vA x0), (1, vA x1), (2, vI x2), (3, vI x3), (4, vI x4), (5, vI x5)]) dX6_placeOf_88 (by decide) rfl (j_iload 0 dX6_placeOf_90 rfl (j_if_eq (tgt := 99) dX6_placeOf_92 (by decide) h (fun h => j_iload 5 dX6_placeOf_99 rfl (j_sub [1, 2, 3, 6] rfl (JX6_placeOf_101 hc8 _ _ _ _ _ _ h))) (fun h => j_iload_n 4 dX6_placeOf_95 rfl (j_goto (tgt := 101) dX6_placeOf_96 (by decide) (j_sub [1, 2, 3, 6] rfl (JX6_placeOf_101 hc8 _ _ _ _ _ _ h))))))
def VX6_placeOf_67 (d : Nat) (c8 : Nat → Nat → Int → Int → Int → Int → MS → Prop) (Q : Out → MS → Prop) (x0 : Nat) (x1 : Nat) (x2 : Int) (x3 : Int) (x4 : Int) (x5 : Int) (t0 : Int) (S : MS) : Prop :=
  R32 x3 ∧ (¬ (x3 = 0) → VX6_placeOf_88 d c8 Q x0 x1 x2 x3 x4 x5 t0 S) ∧ ((x3 = 0) → R32 t0 ∧ (¬ (t0 = 0) → VX6_placeOf_88 d c8 Q x0 x1 x2 x3 x4 x5 0 S) ∧ ((t0 = 0) → VX6_placeOf_88 d c8 Q x0 x1 x2 x3 x4 x5 1 S))
theorem JX6_placeOf_67 {d : Nat} {c8 : Nat → Nat → Int → Int → Int → Int → MS → Prop} {S0 : MS} {Q : Out → MS → Prop} (hc8 : ∀ (x0 : Nat) (x1 : Nat) (x2 : Int) (x3 : Int) (x4 : Int) (x5 : Int) (S : MS), c8 x0 x1 x2 x3 x4 x5 S → Jw FinM RX6 cX6_placeOf 10 (some .int) [] yX6_placeOf (d + 1) S0 S 8 [(0, vA x0), (1, vA x1), (2, vI x2), (3, vI x3), (4, vI x4), (5, vI x5)] [] Q) (x0 : Nat) (x1 : Nat) (x2 : Int) (x3 : Int) (x4 : Int) (x5 : Int) (t0 : Int) (S : MS) (h : VX6_placeOf_67 d c8 Q x0 x1 x2 x3 x4 x5 t0 S) : Jw FinM RX6 cX6_placeOf 10 (some .int) [] yX6_placeOf (d + 1) S0 S 67 [(0, vA x0), (1, vA x1), (2, vI x2), (3, vI x3), (4, vI x4), (5, vI x5)] [vI t0] Q :=
  j_istore (lv2 := [(7, vI t0), (0, vA x0), (1, vA x1), (2, vI x2), (3, vI x3), (4, vI x4), (5, vI x5)]) dX6_placeOf_67 (by decide) rfl (j_iload_n 4 dX6_placeOf_69 rfl (j_if_ne (tgt := 86) dX6_placeOf_70 (by decide) h (fun h => j_iload 0 dX6_placeOf_86 rfl (j_sub [1, 2, 3, 4, 5, 6] rfl (JX6_placeOf_88 hc8 _ _ _ _ _ _ _ _ h))) (fun h => j_iload 0 dX6_placeOf_73 rfl (j_if_ne (tgt := 82) dX6_placeOf_75 (by decide) h (fun h => j_iconst dX6_placeOf_82 (j_goto (tgt := 88) dX6_placeOf_83 (by decide) (j_sub [1, 2, 3, 4, 5, 6] rfl (JX6_placeOf_88 hc8 _ _ _ _ _ _ _ _ h)))) (fun h => j_iconst dX6_placeOf_78 (j_goto (tgt := 88) dX6_placeOf_79 (by decide) (j_sub [1, 2, 3, 4, 5, 6] rfl (JX6_placeOf_88 hc8 _ _ _ _ _ _ _ _ h))))))))
def VX6_placeOf_203 (d : Nat) (Q : Out → MS → Prop) (x3 : Int) (S : MS) : Prop :=
  Q (.inl (some (vI x3))) S
theorem JX6_placeOf_203 {d : Nat} {S0 : MS} {Q : Out → MS → Prop} (x3 : Int) (S : MS) (h : VX6_placeOf_203 d Q x3 S) : Jw FinM RX6 cX6_placeOf 10 (some .int) [] yX6_placeOf (d + 1) S0 S 203 [(3, vI x3)] [] Q :=
  j_iload_n 0 dX6_placeOf_203 rfl (j_iret rfl dX6_placeOf_204 h)
def VX6_placeOf_8 (d : Nat) (Q : Out → MS → Prop) : Nat → Nat → Nat → Int → Int → Int → Int → MS → Prop
  | 0, _, _, _, _, _, _, _ => False
  | n + 1, x0, x1, x2, x3, x4, x5, S => (R32 x5 ∧ R32 (7 : Int)) ∧ (((7 : Int) ≤ x5) → VX6_placeOf_203 d Q x3 S) ∧ (¬ ((7 : Int) ≤ x5) → (R32 x3 ∧ R32 x4) ∧ ((x4 ≤ x3) → VX6_placeOf_203 d Q x3 S) ∧ (¬ (x4 ≤ x3) → (R32 x4 ∧ R32 (x3 + 1)) ∧ (¬ (x4 = (x3 + 1)) → (R32 (3 : Int) ∧ (3 : Int) ≠ 0) ∧ (S.K x0 = 6 ∧ ∃ b1, S.R x0 0 = some b1 ∧ ((S.K b1 = 13 ∧ 0 ≤ (x3 + (iDiv ((x4 - x3) - 2) 3)) ∧ (x3 + (iDiv ((x4 - x3) - 2) 3)) < S.N b1) ∧ (S.K x0 = 6 ∧ ∃ b2, S.R x0 0 = some b2 ∧ ((S.K b2 = 13 ∧ 0 ≤ ((x4 - 1) - (iDiv ((x4 - x3) - 2) 3)) ∧ ((x4 - 1) - (iDiv ((x4 - x3) - 2) 3)) < S.N b2) ∧ (S.K x0 = 6 ∧ Mw hX6_lift yX6_lift d [vA x0, vA x1, vI x2, vI (S.I b1 ((x3 + (iDiv ((x4 - x3) - 2) 3))).toNat), vI (S.I b2 (((x4 - 1) - (iDiv ((x4 - x3) - 2) 3))).toNat)] S (oI (fun r3 S3 => S3.K x0 = 6 ∧ ∃ b4, S3.R x0 0 = some b4 ∧ ((S3.K b4 = 13 ∧ 0 ≤ (x3 + (iDiv ((x4 - x3) - 2) 3)) ∧ (x3 + (iDiv ((x4 - x3) - 2) 3)) < S3.N b4) ∧ ((R32 r3 ∧ R32 (S3.I b4 ((x3 + (iDiv ((x4 - x3) - 2) 3))).toNat)) ∧ (¬ (r3 = (S3.I b4 ((x3 + (iDiv ((x4 - x3) - 2) 3))).toNat)) → (R32 r3 ∧ R32 x2) ∧ (¬ (r3 = x2) → VX6_placeOf_197 d (VX6_placeOf_8 d Q n) Q x0 x1 x2 (((x4 - 1) - (iDiv ((x4 - x3) - 2) 3)) + 1) x4 x5 S3) ∧ ((r3 = x2) → VX6_placeOf_197 d (VX6_placeOf_8 d Q n) Q x0 x1 x2 ((x3 + (iDiv ((x4 - x3) - 2) 3)) + 1) ((x4 - 1) - (iDiv ((x4 - x3) - 2) 3)) x5 S3)) ∧ ((r3 = (S3.I b4 ((x3 + (iDiv ((x4 - x3) - 2) 3))).toNat)) → VX6_placeOf_197 d (VX6_placeOf_8 d Q n) Q x0 x1 x2 x3 (x3 + (iDiv ((x4 - x3) - 2) 3)) x5 S3))))))))))) ∧ ((x4 = (x3 + 1)) → (R32 x3 ∧ R32 (1 : Int)) ∧ (S.K x0 = 6 ∧ ∃ b5, S.R x0 0 = some b5 ∧ ((S.K b5 = 13 ∧ 0 ≤ ((max x3 (1 : Int)) - 1) ∧ ((max x3 (1 : Int)) - 1) < S.N b5) ∧ (S.K x0 = 6 ∧ ∃ b6, S.R x0 0 = some b6 ∧ ((S.K b6 = 13 ∧ 0 ≤ (max x3 (1 : Int)) ∧ (max x3 (1 : Int)) < S.N b6) ∧ (S.K x0 = 6 ∧ Mw hX6_lift yX6_lift d [vA x0, vA x1, vI x2, vI (S.I b5 (((max x3 (1 : Int)) - 1)).toNat), vI (S.I b6 ((max x3 (1 : Int))).toNat)] S (oI (fun r7 S7 => (R32 r7 ∧ R32 x2) ∧ (¬ (r7 = x2) → VX6_placeOf_67 d (VX6_placeOf_8 d Q n) Q x0 x1 x2 x3 x4 x5 0 S7) ∧ ((r7 = x2) → VX6_placeOf_67 d (VX6_placeOf_8 d Q n) Q x0 x1 x2 x3 x4 x5 1 S7)))))))))))
theorem JX6_placeOf_8 {d : Nat} {S0 : MS} {Q : Out → MS → Prop} : ∀ (n : Nat) (x0 : Nat) (x1 : Nat) (x2 : Int) (x3 : Int) (x4 : Int) (x5 : Int) (S : MS), VX6_placeOf_8 d Q n x0 x1 x2 x3 x4 x5 S → Jw FinM RX6 cX6_placeOf 10 (some .int) [] yX6_placeOf (d + 1) S0 S 8 [(0, vA x0), (1, vA x1), (2, vI x2), (3, vI x3), (4, vI x4), (5, vI x5)] [] Q := by
  intro n
  induction n with
  | zero => intro x0 x1 x2 x3 x4 x5 S h; exact h.elim
  | succ n ih =>
    intro x0 x1 x2 x3 x4 x5 S h
    exact j_iload 5 dX6_placeOf_8 rfl (j_bipush dX6_placeOf_10 rfl (j_icmp_ge (tgt := 203) dX6_placeOf_12 (by decide) h (fun h => j_sub [3] rfl (JX6_placeOf_203 _ _ h)) (fun h => j_iload_n 3 dX6_placeOf_15 rfl (j_iload 4 dX6_placeOf_16 rfl (j_icmp_ge (tgt := 203) dX6_placeOf_18 (by decide) h (fun h => j_sub [3] rfl (JX6_placeOf_203 _ _ h)) (fun h => j_iload 4 dX6_placeOf_21 rfl (j_iload_n 3 dX6_placeOf_23 rfl (j_iconst dX6_placeOf_24 (j_iadd dX6_placeOf_25 (j_icmp_ne (tgt := 108) dX6_placeOf_26 (by decide) h (fun h => j_iload 4 dX6_placeOf_108 rfl (j_iload_n 3 dX6_placeOf_110 rfl (j_isub dX6_placeOf_111 (j_iconst dX6_placeOf_112 (j_isub dX6_placeOf_113 (j_iconst dX6_placeOf_114 (j_idiv dX6_placeOf_115 h (fun h => j_istore (lv2 := [(6, vI (iDiv ((x4 - x3) - 2) 3)), (0, vA x0), (1, vA x1), (2, vI x2), (3, vI x3), (4, vI x4), (5, vI x5)]) dX6_placeOf_116 (by decide) rfl (j_iload_n 4 dX6_placeOf_118 rfl (j_iload 0 dX6_placeOf_119 rfl (j_iadd dX6_placeOf_121 (j_istore (lv2 := [(7, vI (x3 + (iDiv ((x4 - x3) - 2) 3))), (6, vI (iDiv ((x4 - x3) - 2) 3)), (0, vA x0), (1, vA x1), (2, vI x2), (3, vI x3), (4, vI x4), (5, vI x5)]) dX6_placeOf_122 (by decide) rfl (j_iload 6 dX6_placeOf_124 rfl (j_iconst dX6_placeOf_126 (j_isub dX6_placeOf_127 (j_iload 1 dX6_placeOf_128 rfl (j_isub dX6_placeOf_130 (j_istore (lv2 := [(8, vI ((x4 - 1) - (iDiv ((x4 - x3) - 2) 3))), (7, vI (x3 + (iDiv ((x4 - x3) - 2) 3))), (6, vI (iDiv ((x4 - x3) - 2) 3)), (0, vA x0), (1, vA x1), (2, vI x2), (3, vI x3), (4, vI x4), (5, vI x5)]) dX6_placeOf_131 (by decide) rfl (j_aload_n 3 dX6_placeOf_133 rfl (j_aload_n 4 dX6_placeOf_134 rfl (j_iload_n 5 dX6_placeOf_135 rfl (j_aload_n 3 dX6_placeOf_136 rfl (j_getR 6 0 f_RX6_9 dX6_placeOf_137 h (fun b1 h => j_iload 1 dX6_placeOf_140 rfl (j_iald dX6_placeOf_142 h (fun h => j_aload_n 3 dX6_placeOf_143 rfl (j_getR 6 0 f_RX6_9 dX6_placeOf_144 h (fun b2 h => j_iload 0 dX6_placeOf_147 rfl (j_iald dX6_placeOf_149 h (fun h => j_callV (rest := []) 6 [vA x1, vI x2, vI (S.I b1 ((x3 + (iDiv ((x4 - x3) - 2) 3))).toNat), vI (S.I b2 (((x4 - 1) - (iDiv ((x4 - x3) - 2) 3))).toNat)] k_RX6_19 ⟨w_6_132, p_3_8⟩ ⟨_, _, rfl⟩ (by decide) rfl rfl (Nat.le_of_ble_eq_true rfl) dX6_placeOf_150 h (kI (fun r3 S3 h => j_istore (lv2 := [(9, vI r3), (8, vI ((x4 - 1) - (iDiv ((x4 - x3) - 2) 3))), (7, vI (x3 + (iDiv ((x4 - x3) - 2) 3))), (6, vI (iDiv ((x4 - x3) - 2) 3)), (0, vA x0), (1, vA x1), (2, vI x2), (3, vI x3), (4, vI x4), (5, vI x5)]) dX6_placeOf_153 (by decide) rfl (j_iload 0 dX6_placeOf_155 rfl (j_aload_n 4 dX6_placeOf_157 rfl (j_getR 6 0 f_RX6_9 dX6_placeOf_158 h (fun b4 h => j_iload 2 dX6_placeOf_161 rfl (j_iald dX6_placeOf_163 h (fun h => j_icmp_ne (tgt := 174) dX6_placeOf_164 (by decide) h (fun h => j_iload 0 dX6_placeOf_174 rfl (j_iload_n 6 dX6_placeOf_176 rfl (j_icmp_ne (tgt := 192) dX6_placeOf_177 (by decide) h (fun h => j_iload 1 dX6_placeOf_192 rfl (j_iconst dX6_placeOf_194 (j_iadd dX6_placeOf_195 (j_istore_n (lv2 := [(3, vI (((x4 - 1) - (iDiv ((x4 - x3) - 2) 3)) + 1)), (9, vI r3), (8, vI ((x4 - 1) - (iDiv ((x4 - x3) - 2) 3))), (7, vI (x3 + (iDiv ((x4 - x3) - 2) 3))), (6, vI (iDiv ((x4 - x3) - 2) 3)), (0, vA x0), (1, vA x1), (2, vI x2), (4, vI x4), (5, vI x5)]) dX6_placeOf_196 (by decide) rfl (j_sub [5, 6, 7, 0, 8, 9] rfl (JX6_placeOf_197 ih _ _ _ _ _ _ _ h)))))) (fun h => j_iload 2 dX6_placeOf_180 rfl (j_iconst dX6_placeOf_182 (j_iadd dX6_placeOf_183 (j_istore_n (lv2 := [(3, vI ((x3 + (iDiv ((x4 - x3) - 2) 3)) + 1)), (9, vI r3), (8, vI ((x4 - 1) - (iDiv ((x4 - x3) - 2) 3))), (7, vI (x3 + (iDiv ((x4 - x3) - 2) 3))), (6, vI (iDiv ((x4 - x3) - 2) 3)), (0, vA x0), (1, vA x1), (2, vI x2), (4, vI x4), (5, vI x5)]) dX6_placeOf_184 (by decide) rfl (j_iload 2 dX6_placeOf_185 rfl (j_istore (lv2 := [(4, vI ((x4 - 1) - (iDiv ((x4 - x3) - 2) 3))), (3, vI ((x3 + (iDiv ((x4 - x3) - 2) 3)) + 1)), (9, vI r3), (8, vI ((x4 - 1) - (iDiv ((x4 - x3) - 2) 3))), (7, vI (x3 + (iDiv ((x4 - x3) - 2) 3))), (6, vI (iDiv ((x4 - x3) - 2) 3)), (0, vA x0), (1, vA x1), (2, vI x2), (5, vI x5)]) dX6_placeOf_187 (by decide) rfl (j_goto (tgt := 197) dX6_placeOf_189 (by decide) (j_sub [6, 7, 8, 1, 0, 9] rfl (JX6_placeOf_197 ih _ _ _ _ _ _ _ h)))))))))))) (fun h => j_iload 2 dX6_placeOf_167 rfl (j_istore (lv2 := [(4, vI (x3 + (iDiv ((x4 - x3) - 2) 3))), (9, vI r3), (8, vI ((x4 - 1) - (iDiv ((x4 - x3) - 2) 3))), (7, vI (x3 + (iDiv ((x4 - x3) - 2) 3))), (6, vI (iDiv ((x4 - x3) - 2) 3)), (0, vA x0), (1, vA x1), (2, vI x2), (3, vI x3), (5, vI x5)]) dX6_placeOf_169 (by decide) rfl (j_goto (tgt := 197) dX6_placeOf_171 (by decide) (j_sub [5, 6, 7, 8, 0, 9] rfl (JX6_placeOf_197 ih _ _ _ _ _ _ _ h))))))))))))) (fun _ _ h => h.elim))))))))))))))))))))))))))))))) (fun h => j_iload_n 3 dX6_placeOf_29 rfl (j_iconst dX6_placeOf_30 (j_mmax w_6_139 w_2_67 w_1_16 w_mmax (Nat.le_of_ble_eq_true rfl) dX6_placeOf_31 h (fun h => j_istore (lv2 := [(6, vI (max x3 (1 : Int))), (0, vA x0), (1, vA x1), (2, vI x2), (3, vI x3), (4, vI x4), (5, vI x5)]) dX6_placeOf_34 (by decide) rfl (j_aload_n 1 dX6_placeOf_36 rfl (j_aload_n 2 dX6_placeOf_37 rfl (j_iload_n 3 dX6_placeOf_38 rfl (j_aload_n 1 dX6_placeOf_39 rfl (j_getR 6 0 f_RX6_9 dX6_placeOf_40 h (fun b5 h => j_iload 0 dX6_placeOf_43 rfl (j_iconst dX6_placeOf_45 (j_isub dX6_placeOf_46 (j_iald dX6_placeOf_47 h (fun h => j_aload_n 1 dX6_placeOf_48 rfl (j_getR 6 0 f_RX6_9 dX6_placeOf_49 h (fun b6 h => j_iload 0 dX6_placeOf_52 rfl (j_iald dX6_placeOf_54 h (fun h => j_callV (rest := []) 6 [vA x1, vI x2, vI (S.I b5 (((max x3 (1 : Int)) - 1)).toNat), vI (S.I b6 ((max x3 (1 : Int))).toNat)] k_RX6_19 ⟨w_6_132, p_3_8⟩ ⟨_, _, rfl⟩ (by decide) rfl rfl (Nat.le_of_ble_eq_true rfl) dX6_placeOf_55 h (kI (fun r7 S7 h => j_iload_n 3 dX6_placeOf_58 rfl (j_icmp_ne (tgt := 66) dX6_placeOf_59 (by decide) h (fun h => j_iconst dX6_placeOf_66 (j_sub [1, 2, 3, 4, 5, 6] rfl (JX6_placeOf_67 ih _ _ _ _ _ _ _ _ h))) (fun h => j_iconst dX6_placeOf_62 (j_goto (tgt := 67) dX6_placeOf_63 (by decide) (j_sub [1, 2, 3, 4, 5, 6] rfl (JX6_placeOf_67 ih _ _ _ _ _ _ _ _ h))))))) (fun _ _ h => h.elim)))))))))))))))))))))))))))))
def VX6_placeOf_0 (d : Nat) (Q : Out → MS → Prop) (x0 : Nat) (x1 : Nat) (x2 : Int) (S : MS) : Prop :=
  ∃ m, VX6_placeOf_8 d Q m x0 x1 x2 0 x2 0 S
theorem JX6_placeOf_0 {d : Nat} {S0 : MS} {Q : Out → MS → Prop} (x0 : Nat) (x1 : Nat) (x2 : Int) (S : MS) (h : VX6_placeOf_0 d Q x0 x1 x2 S) : Jw FinM RX6 cX6_placeOf 10 (some .int) [] yX6_placeOf (d + 1) S0 S 0 [(0, vA x0), (1, vA x1), (2, vI x2)] [] Q :=
  j_iconst dX6_placeOf_0 (j_istore_n (lv2 := [(3, vI 0), (0, vA x0), (1, vA x1), (2, vI x2)]) dX6_placeOf_1 (by decide) rfl (j_iload_n 3 dX6_placeOf_2 rfl (j_istore (lv2 := [(4, vI x2), (3, vI 0), (0, vA x0), (1, vA x1), (2, vI x2)]) dX6_placeOf_3 (by decide) rfl (j_iconst dX6_placeOf_5 (j_istore (lv2 := [(5, vI 0), (4, vI x2), (3, vI 0), (0, vA x0), (1, vA x1), (2, vI x2)]) dX6_placeOf_6 (by decide) rfl (Exists.elim h (fun m h => j_sub [3, 4, 5, 2, 1, 0] rfl (JX6_placeOf_8 m _ _ _ _ _ _ _ h))))))))
theorem MX6_placeOf {d : Nat} {x0 : Nat} {x1 : Nat} {x2 : Int} {S : MS} {Q : Out → MS → Prop} (h : VX6_placeOf_0 d Q x0 x1 x2 S) : Mw hX6_placeOf yX6_placeOf (d + 1) [vA x0, vA x1, vI x2] S Q := Mw.ofJ (by decide) (Nat.le_of_ble_eq_true rfl) (JX6_placeOf_0 _ _ _ S h)
