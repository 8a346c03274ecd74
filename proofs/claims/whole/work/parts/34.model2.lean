theorem dX11_shed_0 : decode cX11_shed 0 = .ok (.aload_n 0, 1) := by decide +kernel
theorem dX11_shed_1 : decode cX11_shed 1 = .ok (.invokevirtual 184, 3) := by decide +kernel
theorem dX11_shed_4 : decode cX11_shed 4 = .ok (.iconst 0, 1) := by decide +kernel
theorem dX11_shed_5 : decode cX11_shed 5 = .ok (.istore_n 1, 1) := by decide +kernel
theorem dX11_shed_6 : decode cX11_shed 6 = .ok (.iload_n 1, 1) := by decide +kernel
theorem dX11_shed_7 : decode cX11_shed 7 = .ok (.bipush 71, 2) := by decide +kernel
theorem dX11_shed_9 : decode cX11_shed 9 = .ok (.if_icmp .ge 21, 3) := by decide +kernel
theorem dX11_shed_12 : decode cX11_shed 12 = .ok (.aload_n 0, 1) := by decide +kernel
theorem dX11_shed_13 : decode cX11_shed 13 = .ok (.getfield 20, 3) := by decide +kernel
theorem dX11_shed_16 : decode cX11_shed 16 = .ok (.iload_n 1, 1) := by decide +kernel
theorem dX11_shed_17 : decode cX11_shed 17 = .ok (.aload_n 0, 1) := by decide +kernel
theorem dX11_shed_18 : decode cX11_shed 18 = .ok (.getfield 13, 3) := by decide +kernel
theorem dX11_shed_21 : decode cX11_shed 21 = .ok (.iload_n 1, 1) := by decide +kernel
theorem dX11_shed_22 : decode cX11_shed 22 = .ok (.iaload, 1) := by decide +kernel
theorem dX11_shed_23 : decode cX11_shed 23 = .ok (.iastore, 1) := by decide +kernel
theorem dX11_shed_24 : decode cX11_shed 24 = .ok (.iinc 1 1, 3) := by decide +kernel
theorem dX11_shed_27 : decode cX11_shed 27 = .ok (.goto (-21), 3) := by decide +kernel
theorem dX11_shed_30 : decode cX11_shed 30 = .ok (.aload_n 0, 1) := by decide +kernel
theorem dX11_shed_31 : decode cX11_shed 31 = .ok (.invokevirtual 187, 3) := by decide +kernel
theorem dX11_shed_34 : decode cX11_shed 34 = .ok (.istore_n 1, 1) := by decide +kernel
theorem dX11_shed_35 : decode cX11_shed 35 = .ok (.aload_n 0, 1) := by decide +kernel
theorem dX11_shed_36 : decode cX11_shed 36 = .ok (.iload_n 1, 1) := by decide +kernel
theorem dX11_shed_37 : decode cX11_shed 37 = .ok (.ifCond .eq 7, 3) := by decide +kernel
theorem dX11_shed_40 : decode cX11_shed 40 = .ok (.iconst (-1), 1) := by decide +kernel
theorem dX11_shed_41 : decode cX11_shed 41 = .ok (.goto 7, 3) := by decide +kernel
theorem dX11_shed_44 : decode cX11_shed 44 = .ok (.aload_n 0, 1) := by decide +kernel
theorem dX11_shed_45 : decode cX11_shed 45 = .ok (.getfield 123, 3) := by decide +kernel
theorem dX11_shed_48 : decode cX11_shed 48 = .ok (.putfield 27, 3) := by decide +kernel
theorem dX11_shed_51 : decode cX11_shed 51 = .ok (.aload_n 0, 1) := by decide +kernel
theorem dX11_shed_52 : decode cX11_shed 52 = .ok (.iload_n 1, 1) := by decide +kernel
theorem dX11_shed_53 : decode cX11_shed 53 = .ok (.ifCond .ne 7, 3) := by decide +kernel
theorem dX11_shed_56 : decode cX11_shed 56 = .ok (.iconst 1, 1) := by decide +kernel
theorem dX11_shed_57 : decode cX11_shed 57 = .ok (.goto 4, 3) := by decide +kernel
theorem dX11_shed_60 : decode cX11_shed 60 = .ok (.iconst 0, 1) := by decide +kernel
theorem dX11_shed_61 : decode cX11_shed 61 = .ok (.iconst 1, 1) := by decide +kernel
theorem dX11_shed_62 : decode cX11_shed 62 = .ok (.invokevirtual 190, 3) := by decide +kernel
theorem dX11_shed_65 : decode cX11_shed 65 = .ok (.ifCond .ne 27, 3) := by decide +kernel
theorem dX11_shed_68 : decode cX11_shed 68 = .ok (.aload_n 0, 1) := by decide +kernel
theorem dX11_shed_69 : decode cX11_shed 69 = .ok (.aload_n 0, 1) := by decide +kernel
theorem dX11_shed_70 : decode cX11_shed 70 = .ok (.getfield 13, 3) := by decide +kernel
theorem dX11_shed_73 : decode cX11_shed 73 = .ok (.iconst 3, 1) := by decide +kernel
theorem dX11_shed_74 : decode cX11_shed 74 = .ok (.iaload, 1) := by decide +kernel
theorem dX11_shed_75 : decode cX11_shed 75 = .ok (.bipush 8, 2) := by decide +kernel
theorem dX11_shed_77 : decode cX11_shed 77 = .ok (.if_icmp .ne 7, 3) := by decide +kernel
theorem dX11_shed_80 : decode cX11_shed 80 = .ok (.iconst 1, 1) := by decide +kernel
theorem dX11_shed_81 : decode cX11_shed 81 = .ok (.goto 4, 3) := by decide +kernel
theorem dX11_shed_84 : decode cX11_shed 84 = .ok (.iconst 0, 1) := by decide +kernel
theorem dX11_shed_85 : decode cX11_shed 85 = .ok (.iconst 2, 1) := by decide +kernel
theorem dX11_shed_86 : decode cX11_shed 86 = .ok (.invokevirtual 190, 3) := by decide +kernel
theorem dX11_shed_89 : decode cX11_shed 89 = .ok (.ifCond .eq 5, 3) := by decide +kernel
theorem dX11_shed_92 : decode cX11_shed 92 = .ok (.iconst 0, 1) := by decide +kernel
theorem dX11_shed_93 : decode cX11_shed 93 = .ok (.ireturn, 1) := by decide +kernel
theorem dX11_shed_94 : decode cX11_shed 94 = .ok (.iconst 0, 1) := by decide +kernel
theorem dX11_shed_95 : decode cX11_shed 95 = .ok (.istore_n 2, 1) := by decide +kernel
theorem dX11_shed_96 : decode cX11_shed 96 = .ok (.iload_n 2, 1) := by decide +kernel
theorem dX11_shed_97 : decode cX11_shed 97 = .ok (.bipush 71, 2) := by decide +kernel
theorem dX11_shed_99 : decode cX11_shed 99 = .ok (.if_icmp .ge 21, 3) := by decide +kernel
theorem dX11_shed_102 : decode cX11_shed 102 = .ok (.aload_n 0, 1) := by decide +kernel
theorem dX11_shed_103 : decode cX11_shed 103 = .ok (.getfield 13, 3) := by decide +kernel
theorem dX11_shed_106 : decode cX11_shed 106 = .ok (.iload_n 2, 1) := by decide +kernel
theorem dX11_shed_107 : decode cX11_shed 107 = .ok (.aload_n 0, 1) := by decide +kernel
theorem dX11_shed_108 : decode cX11_shed 108 = .ok (.getfield 20, 3) := by decide +kernel
theorem dX11_shed_111 : decode cX11_shed 111 = .ok (.iload_n 2, 1) := by decide +kernel
theorem dX11_shed_112 : decode cX11_shed 112 = .ok (.iaload, 1) := by decide +kernel
theorem dX11_shed_113 : decode cX11_shed 113 = .ok (.iastore, 1) := by decide +kernel
theorem dX11_shed_114 : decode cX11_shed 114 = .ok (.iinc 2 1, 3) := by decide +kernel
theorem dX11_shed_117 : decode cX11_shed 117 = .ok (.goto (-21), 3) := by decide +kernel
theorem dX11_shed_120 : decode cX11_shed 120 = .ok (.aload_n 0, 1) := by decide +kernel
theorem dX11_shed_121 : decode cX11_shed 121 = .ok (.getfield 13, 3) := by decide +kernel
theorem dX11_shed_124 : decode cX11_shed 124 = .ok (.iconst 3, 1) := by decide +kernel
theorem dX11_shed_125 : decode cX11_shed 125 = .ok (.dup2, 1) := by decide +kernel
theorem dX11_shed_126 : decode cX11_shed 126 = .ok (.iaload, 1) := by decide +kernel
theorem dX11_shed_127 : decode cX11_shed 127 = .ok (.iconst 1, 1) := by decide +kernel
theorem dX11_shed_128 : decode cX11_shed 128 = .ok (.iadd, 1) := by decide +kernel
theorem dX11_shed_129 : decode cX11_shed 129 = .ok (.iastore, 1) := by decide +kernel
theorem dX11_shed_130 : decode cX11_shed 130 = .ok (.aload_n 0, 1) := by decide +kernel
theorem dX11_shed_131 : decode cX11_shed 131 = .ok (.getfield 13, 3) := by decide +kernel
theorem dX11_shed_134 : decode cX11_shed 134 = .ok (.iconst 3, 1) := by decide +kernel
theorem dX11_shed_135 : decode cX11_shed 135 = .ok (.iaload, 1) := by decide +kernel
theorem dX11_shed_136 : decode cX11_shed 136 = .ok (.ireturn, 1) := by decide +kernel
def VX11_shed_96 (d : Nat) (Q : Out → MS → Prop) : Nat → Nat → Int → MS → Prop
  | 0, _, _, _ => False
  | n + 1, x0, x2, S => (R32 x2 ∧ R32 (71 : Int)) ∧ (((71 : Int) ≤ x2) → S.K x0 = 11 ∧ ∃ b1, S.R x0 1 = some b1 ∧ ((S.K b1 = 13 ∧ 0 ≤ (3 : Int) ∧ (3 : Int) < S.N b1) ∧ ((S.K b1 = 13 ∧ 0 ≤ (3 : Int) ∧ (3 : Int) < S.N b1) ∧ ((S.setI b1 ((3 : Int)).toNat ((S.I b1 ((3 : Int)).toNat) + 1)).K x0 = 11 ∧ ∃ b2, (S.setI b1 ((3 : Int)).toNat ((S.I b1 ((3 : Int)).toNat) + 1)).R x0 1 = some b2 ∧ (((S.setI b1 ((3 : Int)).toNat ((S.I b1 ((3 : Int)).toNat) + 1)).K b2 = 13 ∧ 0 ≤ (3 : Int) ∧ (3 : Int) < (S.setI b1 ((3 : Int)).toNat ((S.I b1 ((3 : Int)).toNat) + 1)).N b2) ∧ (Q (.inl (some (vI ((S.setI b1 ((3 : Int)).toNat ((S.I b1 ((3 : Int)).toNat) + 1)).I b2 ((3 : Int)).toNat)))) (S.setI b1 ((3 : Int)).toNat ((S.I b1 ((3 : Int)).toNat) + 1)))))))) ∧ (¬ ((71 : Int) ≤ x2) → S.K x0 = 11 ∧ ∃ b3, S.R x0 1 = some b3 ∧ (S.K x0 = 11 ∧ ∃ b4, S.R x0 3 = some b4 ∧ ((S.K b4 = 13 ∧ 0 ≤ x2 ∧ x2 < S.N b4) ∧ ((S.K b3 = 13 ∧ 0 ≤ x2 ∧ x2 < S.N b3) ∧ ((VX11_shed_96 d Q n) x0 (x2 + 1) (S.setI b3 (x2).toNat (S.I b4 (x2).toNat)))))))
theorem JX11_shed_96 {d : Nat} {S0 : MS} {Q : Out → MS → Prop} : ∀ (n : Nat) (x0 : Nat) (x2 : Int) (S : MS), VX11_shed_96 d Q n x0 x2 S → Jw FinM RX11 cX11_shed 3 (some .int) [] yX11_shed (d + 1) S0 S 96 [(0, vA x0), (2, vI x2)] [] Q := by
  intro n
  induction n with
  | zero => intro x0 x2 S h; exact h.elim
  | succ n ih =>
    intro x0 x2 S h
    exact j_iload_n 1 dX11_shed_96 rfl (j_bipush dX11_shed_97 rfl (j_icmp_ge (tgt := 120) dX11_shed_99 (by decide) h (fun h => j_aload_n 0 dX11_shed_120 rfl (j_getR 11 1 f_RX11_13 dX11_shed_121 h (fun b1 h => j_iconst dX11_shed_124 (j_dup2 rfl rfl dX11_shed_125 (j_iald dX11_shed_126 h (fun h => j_iconst dX11_shed_127 (j_iadd dX11_shed_128 (j_iast dX11_shed_129 h (fun h => j_aload_n 0 dX11_shed_130 rfl (j_getR 11 1 f_RX11_13 dX11_shed_131 h (fun b2 h => j_iconst dX11_shed_134 (j_iald dX11_shed_135 h (fun h => j_iret rfl dX11_shed_136 h))))))))))))) (fun h => j_aload_n 0 dX11_shed_102 rfl (j_getR 11 1 f_RX11_13 dX11_shed_103 h (fun b3 h => j_iload_n 1 dX11_shed_106 rfl (j_aload_n 0 dX11_shed_107 rfl (j_getR 11 3 f_RX11_20 dX11_shed_108 h (fun b4 h => j_iload_n 1 dX11_shed_111 rfl (j_iald dX11_shed_112 h (fun h => j_iast dX11_shed_113 h (fun h => j_iinc 1 (lv2 := [(2, vI (x2 + 1)), (0, vA x0)]) dX11_shed_114 rfl (by decide) rfl (j_goto (tgt := 96) dX11_shed_117 (by decide) (j_sub [1, 0] rfl (ih _ _ _ h))))))))))))))
def VX11_shed_85 (d : Nat) (Q : Out → MS → Prop) (x0 : Nat) (t0 : Int) (t1 : Nat) (S : MS) : Prop :=
  S.K t1 = 11 ∧ Mw hX11_throwsIf yX11_throwsIf d [vA t1, vI t0, vI 2] S (oI (fun r1 S1 => R32 r1 ∧ ((r1 = 0) → ∃ m, VX11_shed_96 d Q m x0 0 S1) ∧ (¬ (r1 = 0) → Q (.inl (some (vI 0))) S1)))
theorem JX11_shed_85 {d : Nat} {S0 : MS} {Q : Out → MS → Prop} (x0 : Nat) (t0 : Int) (t1 : Nat) (S : MS) (h : VX11_shed_85 d Q x0 t0 t1 S) : Jw FinM RX11 cX11_shed 3 (some .int) [] yX11_shed (d + 1) S0 S 85 [(0, vA x0)] [vI t0, vA t1] Q :=
  j_iconst dX11_shed_85 (j_callV (rest := []) 11 [vI t0, vI 2] k_RX11_190 ⟨w_7_191, p_4_7⟩ ⟨_, _, rfl⟩ (by decide) rfl rfl (Nat.le_of_ble_eq_true rfl) dX11_shed_86 h (kI (fun r1 S1 h => j_if_eq (tgt := 94) dX11_shed_89 (by decide) h (fun h => j_iconst dX11_shed_94 (j_istore_n (lv2 := [(2, vI 0), (0, vA x0)]) dX11_shed_95 (by decide) rfl (Exists.elim h (fun m h => j_sub [1, 0] rfl (JX11_shed_96 m _ _ _ h))))) (fun h => j_iconst dX11_shed_92 (j_iret rfl dX11_shed_93 h)))) (fun _ _ h => h.elim))
def VX11_shed_61 (d : Nat) (Q : Out → MS → Prop) (x0 : Nat) (t0 : Int) (t1 : Nat) (S : MS) : Prop :=
  S.K t1 = 11 ∧ Mw hX11_throwsIf yX11_throwsIf d [vA t1, vI t0, vI 1] S (oI (fun r1 S1 => R32 r1 ∧ (¬ (r1 = 0) → Q (.inl (some (vI 0))) S1) ∧ ((r1 = 0) → S1.K x0 = 11 ∧ ∃ b2, S1.R x0 1 = some b2 ∧ ((S1.K b2 = 13 ∧ 0 ≤ (3 : Int) ∧ (3 : Int) < S1.N b2) ∧ ((R32 (S1.I b2 ((3 : Int)).toNat) ∧ R32 (8 : Int)) ∧ (¬ ((S1.I b2 ((3 : Int)).toNat) = (8 : Int)) → VX11_shed_85 d Q x0 0 x0 S1) ∧ (((S1.I b2 ((3 : Int)).toNat) = (8 : Int)) → VX11_shed_85 d Q x0 1 x0 S1))))))
theorem JX11_shed_61 {d : Nat} {S0 : MS} {Q : Out → MS → Prop} (x0 : Nat) (t0 : Int) (t1 : Nat) (S : MS) (h : VX11_shed_61 d Q x0 t0 t1 S) : Jw FinM RX11 cX11_shed 3 (some .int) [] yX11_shed (d + 1) S0 S 61 [(0, vA x0)] [vI t0, vA t1] Q :=
  j_iconst dX11_shed_61 (j_callV (rest := []) 11 [vI t0, vI 1] k_RX11_190 ⟨w_7_191, p_4_7⟩ ⟨_, _, rfl⟩ (by decide) rfl rfl (Nat.le_of_ble_eq_true rfl) dX11_shed_62 h (kI (fun r1 S1 h => j_if_ne (tgt := 92) dX11_shed_65 (by decide) h (fun h => j_iconst dX11_shed_92 (j_iret rfl dX11_shed_93 h)) (fun h => j_aload_n 0 dX11_shed_68 rfl (j_aload_n 0 dX11_shed_69 rfl (j_getR 11 1 f_RX11_13 dX11_shed_70 h (fun b2 h => j_iconst dX11_shed_73 (j_iald dX11_shed_74 h (fun h => j_bipush dX11_shed_75 rfl (j_icmp_ne (tgt := 84) dX11_shed_77 (by decide) h (fun h => j_iconst dX11_shed_84 (JX11_shed_85 _ _ _ _ h)) (fun h => j_iconst dX11_shed_80 (j_goto (tgt := 85) dX11_shed_81 (by decide) (JX11_shed_85 _ _ _ _ h)))))))))))) (fun _ _ h => h.elim))
def VX11_shed_48 (d : Nat) (Q : Out → MS → Prop) (x0 : Nat) (x1 : Int) (t0 : Int) (t1 : Nat) (S : MS) : Prop :=
  S.K t1 = 11 ∧ (R32 x1 ∧ (¬ (x1 = 0) → VX11_shed_61 d Q x0 0 x0 (S.setI t1 10 t0)) ∧ ((x1 = 0) → VX11_shed_61 d Q x0 1 x0 (S.setI t1 10 t0)))
theorem JX11_shed_48 {d : Nat} {S0 : MS} {Q : Out → MS → Prop} (x0 : Nat) (x1 : Int) (t0 : Int) (t1 : Nat) (S : MS) (h : VX11_shed_48 d Q x0 x1 t0 t1 S) : Jw FinM RX11 cX11_shed 3 (some .int) [] yX11_shed (d + 1) S0 S 48 [(0, vA x0), (1, vI x1)] [vI t0, vA t1] Q :=
  j_putI 11 10 f_RX11_27 dX11_shed_48 h (fun h => j_aload_n 0 dX11_shed_51 rfl (j_iload_n 1 dX11_shed_52 rfl (j_if_ne (tgt := 60) dX11_shed_53 (by decide) h (fun h => j_iconst dX11_shed_60 (j_sub [0] rfl (JX11_shed_61 _ _ _ _ h))) (fun h => j_iconst dX11_shed_56 (j_goto (tgt := 61) dX11_shed_57 (by decide) (j_sub [0] rfl (JX11_shed_61 _ _ _ _ h)))))))
def VX11_shed_6 (d : Nat) (Q : Out → MS → Prop) : Nat → Nat → Int → MS → Prop
  | 0, _, _, _ => False
  | n + 1, x0, x1, S => (R32 x1 ∧ R32 (71 : Int)) ∧ (((71 : Int) ≤ x1) → S.K x0 = 11 ∧ Mw hX11_readAll yX11_readAll d [vA x0] S (oI (fun r1 S1 => R32 r1 ∧ ((r1 = 0) → S1.K x0 = 11 ∧ (VX11_shed_48 d Q x0 r1 (S1.I x0 9) x0 S1)) ∧ (¬ (r1 = 0) → VX11_shed_48 d Q x0 r1 ((-1)) x0 S1)))) ∧ (¬ ((71 : Int) ≤ x1) → S.K x0 = 11 ∧ ∃ b2, S.R x0 3 = some b2 ∧ (S.K x0 = 11 ∧ ∃ b3, S.R x0 1 = some b3 ∧ ((S.K b3 = 13 ∧ 0 ≤ x1 ∧ x1 < S.N b3) ∧ ((S.K b2 = 13 ∧ 0 ≤ x1 ∧ x1 < S.N b2) ∧ ((VX11_shed_6 d Q n) x0 (x1 + 1) (S.setI b2 (x1).toNat (S.I b3 (x1).toNat)))))))
theorem JX11_shed_6 {d : Nat} {S0 : MS} {Q : Out → MS → Prop} : ∀ (n : Nat) (x0 : Nat) (x1 : Int) (S : MS), VX11_shed_6 d Q n x0 x1 S → Jw FinM RX11 cX11_shed 3 (some .int) [] yX11_shed (d + 1) S0 S 6 [(0, vA x0), (1, vI x1)] [] Q := by
  intro n
  induction n with
  | zero => intro x0 x1 S h; exact h.elim
  | succ n ih =>
    intro x0 x1 S h
    exact j_iload_n 1 dX11_shed_6 rfl (j_bipush dX11_shed_7 rfl (j_icmp_ge (tgt := 30) dX11_shed_9 (by decide) h (fun h => j_aload_n 0 dX11_shed_30 rfl (j_callV (rest := []) 11 [] k_RX11_187 ⟨w_7_131, p_3_12⟩ ⟨_, _, rfl⟩ (by decide) rfl rfl (Nat.le_of_ble_eq_true rfl) dX11_shed_31 h (kI (fun r1 S1 h => j_istore_n (lv2 := [(1, vI r1), (0, vA x0)]) dX11_shed_34 (by decide) rfl (j_aload_n 1 dX11_shed_35 rfl (j_iload_n 0 dX11_shed_36 rfl (j_if_eq (tgt := 44) dX11_shed_37 (by decide) h (fun h => j_aload_n 1 dX11_shed_44 rfl (j_getI 11 9 f_RX11_123 dX11_shed_45 h (fun h => j_sub [1, 0] rfl (JX11_shed_48 _ _ _ _ _ h)))) (fun h => j_iconst dX11_shed_40 (j_goto (tgt := 48) dX11_shed_41 (by decide) (j_sub [1, 0] rfl (JX11_shed_48 _ _ _ _ _ h))))))))) (fun _ _ h => h.elim))) (fun h => j_aload_n 0 dX11_shed_12 rfl (j_getR 11 3 f_RX11_20 dX11_shed_13 h (fun b2 h => j_iload_n 1 dX11_shed_16 rfl (j_aload_n 0 dX11_shed_17 rfl (j_getR 11 1 f_RX11_13 dX11_shed_18 h (fun b3 h => j_iload_n 1 dX11_shed_21 rfl (j_iald dX11_shed_22 h (fun h => j_iast dX11_shed_23 h (fun h => j_iinc 1 (lv2 := [(1, vI (x1 + 1)), (0, vA x0)]) dX11_shed_24 rfl (by decide) rfl (j_goto (tgt := 6) dX11_shed_27 (by decide) (j_sub [1, 0] rfl (ih _ _ _ h))))))))))))))
def VX11_shed_0 (d : Nat) (Q : Out → MS → Prop) (x0 : Nat) (S : MS) : Prop :=
  S.K x0 = 11 ∧ Mw hX11_uses yX11_uses d [vA x0] S (oV (fun S1 => ∃ m, VX11_shed_6 d Q m x0 0 S1))
theorem JX11_shed_0 {d : Nat} {S0 : MS} {Q : Out → MS → Prop} (x0 : Nat) (S : MS) (h : VX11_shed_0 d Q x0 S) : Jw FinM RX11 cX11_shed 3 (some .int) [] yX11_shed (d + 1) S0 S 0 [(0, vA x0)] [] Q :=
  j_aload_n 0 dX11_shed_0 rfl (j_callV (rest := []) 11 [] k_RX11_184 ⟨w_7_127, p_3_11⟩ ⟨_, _, rfl⟩ (by decide) rfl rfl (Nat.le_of_ble_eq_true rfl) dX11_shed_1 h (kV (fun S1 h => j_iconst dX11_shed_4 (j_istore_n (lv2 := [(1, vI 0), (0, vA x0)]) dX11_shed_5 (by decide) rfl (Exists.elim h (fun m h => j_sub [1, 0] rfl (JX11_shed_6 m _ _ _ h)))))) (fun _ _ h => h.elim))
theorem MX11_shed {d : Nat} {x0 : Nat} {S : MS} {Q : Out → MS → Prop} (h : VX11_shed_0 d Q x0 S) : Mw hX11_shed yX11_shed (d + 1) [vA x0] S Q := Mw.ofJ (by decide) (Nat.le_of_ble_eq_true rfl) (JX11_shed_0 _ S h)
theorem dX11_things__0 : decode cX11_things_ 0 = .ok (.aload_n 0, 1) := by decide +kernel
theorem dX11_things__1 : decode cX11_things_ 1 = .ok (.iconst 0, 1) := by decide +kernel
theorem dX11_things__2 : decode cX11_things_ 2 = .ok (.putfield 3, 3) := by decide +kernel
theorem dX11_things__5 : decode cX11_things_ 5 = .ok (.aload_n 0, 1) := by decide +kernel
theorem dX11_things__6 : decode cX11_things_ 6 = .ok (.iload_n 1, 1) := by decide +kernel
theorem dX11_things__7 : decode cX11_things_ 7 = .ok (.iconst 3, 1) := by decide +kernel
theorem dX11_things__8 : decode cX11_things_ 8 = .ok (.bipush 7, 2) := by decide +kernel
theorem dX11_things__10 : decode cX11_things_ 10 = .ok (.invokestatic 87, 3) := by decide +kernel
theorem dX11_things__13 : decode cX11_things_ 13 = .ok (.ifCond .ne 7, 3) := by decide +kernel
theorem dX11_things__16 : decode cX11_things_ 16 = .ok (.iconst 1, 1) := by decide +kernel
theorem dX11_things__17 : decode cX11_things_ 17 = .ok (.goto 4, 3) := by decide +kernel
theorem dX11_things__20 : decode cX11_things_ 20 = .ok (.iconst 0, 1) := by decide +kernel
theorem dX11_things__21 : decode cX11_things_ 21 = .ok (.iconst 1, 1) := by decide +kernel
theorem dX11_things__22 : decode cX11_things_ 22 = .ok (.invokevirtual 190, 3) := by decide +kernel
theorem dX11_things__25 : decode cX11_things_ 25 = .ok (.ifCond .ne 23, 3) := by decide +kernel
theorem dX11_things__28 : decode cX11_things_ 28 = .ok (.aload_n 0, 1) := by decide +kernel
theorem dX11_things__29 : decode cX11_things_ 29 = .ok (.aload_n 0, 1) := by decide +kernel
theorem dX11_things__30 : decode cX11_things_ 30 = .ok (.invokevirtual 91, 3) := by decide +kernel
theorem dX11_things__33 : decode cX11_things_ 33 = .ok (.ifCond .le 7, 3) := by decide +kernel
theorem dX11_things__36 : decode cX11_things_ 36 = .ok (.iconst 1, 1) := by decide +kernel
theorem dX11_things__37 : decode cX11_things_ 37 = .ok (.goto 4, 3) := by decide +kernel
theorem dX11_things__40 : decode cX11_things_ 40 = .ok (.iconst 0, 1) := by decide +kernel
theorem dX11_things__41 : decode cX11_things_ 41 = .ok (.iconst 2, 1) := by decide +kernel
theorem dX11_things__42 : decode cX11_things_ 42 = .ok (.invokevirtual 190, 3) := by decide +kernel
theorem dX11_things__45 : decode cX11_things_ 45 = .ok (.ifCond .eq 4, 3) := by decide +kernel
theorem dX11_things__48 : decode cX11_things_ 48 = .ok (.return_, 1) := by decide +kernel
theorem dX11_things__49 : decode cX11_things_ 49 = .ok (.aload_n 0, 1) := by decide +kernel
theorem dX11_things__50 : decode cX11_things_ 50 = .ok (.getfield 13, 3) := by decide +kernel
theorem dX11_things__53 : decode cX11_things_ 53 = .ok (.iload_n 1, 1) := by decide +kernel
theorem dX11_things__54 : decode cX11_things_ 54 = .ok (.invokestatic 141, 3) := by decide +kernel
theorem dX11_things__57 : decode cX11_things_ 57 = .ok (.return_, 1) := by decide +kernel
def VX11_things__41 (d : Nat) (Q : Out → MS → Prop) (x0 : Nat) (x1 : Int) (t0 : Int) (t1 : Nat) (S : MS) : Prop :=
  S.K t1 = 11 ∧ Mw hX11_throwsIf yX11_throwsIf d [vA t1, vI t0, vI 2] S (oI (fun r1 S1 => R32 r1 ∧ ((r1 = 0) → S1.K x0 = 11 ∧ ∃ b2, S1.R x0 1 = some b2 ∧ (Mw hX11_setsThings yX11_setsThings d [vA b2, vI x1] S1 (oV (fun S3 => Q (.inl none) S3)))) ∧ (¬ (r1 = 0) → Q (.inl none) S1)))
theorem JX11_things__41 {d : Nat} {S0 : MS} {Q : Out → MS → Prop} (x0 : Nat) (x1 : Int) (t0 : Int) (t1 : Nat) (S : MS) (h : VX11_things__41 d Q x0 x1 t0 t1 S) : Jw FinM RX11 cX11_things_ 2 none [] yX11_things_ (d + 1) S0 S 41 [(0, vA x0), (1, vI x1)] [vI t0, vA t1] Q :=
  j_iconst dX11_things__41 (j_callV (rest := []) 11 [vI t0, vI 2] k_RX11_190 ⟨w_7_191, p_4_7⟩ ⟨_, _, rfl⟩ (by decide) rfl rfl (Nat.le_of_ble_eq_true rfl) dX11_things__42 h (kI (fun r1 S1 h => j_if_eq (tgt := 49) dX11_things__45 (by decide) h (fun h => j_aload_n 0 dX11_things__49 rfl (j_getR 11 1 f_RX11_13 dX11_things__50 h (fun b2 h => j_iload_n 1 dX11_things__53 rfl (j_callS (rest := []) [vA b2, vI x1] k_RX11_141 w_7_165 rfl rfl (Nat.le_of_ble_eq_true rfl) dX11_things__54 h (kV (fun S3 h => j_vret rfl dX11_things__57 h)) (fun _ _ h => h.elim))))) (fun h => j_vret rfl dX11_things__48 h))) (fun _ _ h => h.elim))
def VX11_things__21 (d : Nat) (Q : Out → MS → Prop) (x0 : Nat) (x1 : Int) (t0 : Int) (t1 : Nat) (S : MS) : Prop :=
  S.K t1 = 11 ∧ Mw hX11_throwsIf yX11_throwsIf d [vA t1, vI t0, vI 1] S (oI (fun r1 S1 => R32 r1 ∧ (¬ (r1 = 0) → Q (.inl none) S1) ∧ ((r1 = 0) → S1.K x0 = 11 ∧ Mw hX11_notes yX11_notes d [vA x0] S1 (oI (fun r2 S2 => R32 r2 ∧ ((r2 ≤ 0) → VX11_things__41 d Q x0 x1 0 x0 S2) ∧ (¬ (r2 ≤ 0) → VX11_things__41 d Q x0 x1 1 x0 S2))))))
theorem JX11_things__21 {d : Nat} {S0 : MS} {Q : Out → MS → Prop} (x0 : Nat) (x1 : Int) (t0 : Int) (t1 : Nat) (S : MS) (h : VX11_things__21 d Q x0 x1 t0 t1 S) : Jw FinM RX11 cX11_things_ 2 none [] yX11_things_ (d + 1) S0 S 21 [(0, vA x0), (1, vI x1)] [vI t0, vA t1] Q :=
  j_iconst dX11_things__21 (j_callV (rest := []) 11 [vI t0, vI 1] k_RX11_190 ⟨w_7_191, p_4_7⟩ ⟨_, _, rfl⟩ (by decide) rfl rfl (Nat.le_of_ble_eq_true rfl) dX11_things__22 h (kI (fun r1 S1 h => j_if_ne (tgt := 48) dX11_things__25 (by decide) h (fun h => j_vret rfl dX11_things__48 h) (fun h => j_aload_n 0 dX11_things__28 rfl (j_aload_n 0 dX11_things__29 rfl (j_callV (rest := [vA x0]) 11 [] k_RX11_91 ⟨w_7_202, p_4_8⟩ ⟨_, _, rfl⟩ (by decide) rfl rfl (Nat.le_of_ble_eq_true rfl) dX11_things__30 h (kI (fun r2 S2 h => j_if_le (tgt := 40) dX11_things__33 (by decide) h (fun h => j_iconst dX11_things__40 (JX11_things__41 _ _ _ _ _ h)) (fun h => j_iconst dX11_things__36 (j_goto (tgt := 41) dX11_things__37 (by decide) (JX11_things__41 _ _ _ _ _ h))))) (fun _ _ h => h.elim)))))) (fun _ _ h => h.elim))
def VX11_things__0 (d : Nat) (Q : Out → MS → Prop) (x0 : Nat) (x1 : Int) (S : MS) : Prop :=
  S.K x0 = 11 ∧ (Mw hX11_in yX11_in d [vI x1, vI 3, vI 7] (S.setI x0 0 0) (oI (fun r1 S1 => R32 r1 ∧ (¬ (r1 = 0) → VX11_things__21 d Q x0 x1 0 x0 S1) ∧ ((r1 = 0) → VX11_things__21 d Q x0 x1 1 x0 S1))))
theorem JX11_things__0 {d : Nat} {S0 : MS} {Q : Out → MS → Prop} (x0 : Nat) (x1 : Int) (S : MS) (h : VX11_things__0 d Q x0 x1 S) : Jw FinM RX11 cX11_things_ 2 none [] yX11_things_ (d + 1) S0 S 0 [(0, vA x0), (1, vI x1)] [] Q :=
  j_aload_n 0 dX11_things__0 rfl (j_iconst dX11_things__1 (j_putI 11 0 f_RX11_3 dX11_things__2 h (fun h => j_aload_n 0 dX11_things__5 rfl (j_iload_n 1 dX11_things__6 rfl (j_iconst dX11_things__7 (j_bipush dX11_things__8 rfl (j_callS (rest := [vA x0]) [vI x1, vI 3, vI 7] k_RX11_87 w_7_198 rfl rfl (Nat.le_of_ble_eq_true rfl) dX11_things__10 h (kI (fun r1 S1 h => j_if_ne (tgt := 20) dX11_things__13 (by decide) h (fun h => j_iconst dX11_things__20 (JX11_things__21 _ _ _ _ _ h)) (fun h => j_iconst dX11_things__16 (j_goto (tgt := 21) dX11_things__17 (by decide) (JX11_things__21 _ _ _ _ _ h))))) (fun _ _ h => h.elim))))))))
theorem MX11_things_ {d : Nat} {x0 : Nat} {x1 : Int} {S : MS} {Q : Out → MS → Prop} (h : VX11_things__0 d Q x0 x1 S) : Mw hX11_things_ yX11_things_ (d + 1) [vA x0, vI x1] S Q := Mw.ofJ (by decide) (Nat.le_of_ble_eq_true rfl) (JX11_things__0 _ _ S h)
theorem dX11_scale_0 : decode cX11_scale 0 = .ok (.aload_n 0, 1) := by decide +kernel
theorem dX11_scale_1 : decode cX11_scale 1 = .ok (.iconst 0, 1) := by decide +kernel
theorem dX11_scale_2 : decode cX11_scale 2 = .ok (.putfield 3, 3) := by decide +kernel
theorem dX11_scale_5 : decode cX11_scale 5 = .ok (.aload_n 0, 1) := by decide +kernel
theorem dX11_scale_6 : decode cX11_scale 6 = .ok (.iload_n 1, 1) := by decide +kernel
theorem dX11_scale_7 : decode cX11_scale 7 = .ok (.iconst 0, 1) := by decide +kernel
theorem dX11_scale_8 : decode cX11_scale 8 = .ok (.iconst 2, 1) := by decide +kernel
theorem dX11_scale_9 : decode cX11_scale 9 = .ok (.invokestatic 87, 3) := by decide +kernel
theorem dX11_scale_12 : decode cX11_scale 12 = .ok (.ifCond .eq 22, 3) := by decide +kernel
theorem dX11_scale_15 : decode cX11_scale 15 = .ok (.iload_n 2, 1) := by decide +kernel
theorem dX11_scale_16 : decode cX11_scale 16 = .ok (.iconst 0, 1) := by decide +kernel
theorem dX11_scale_17 : decode cX11_scale 17 = .ok (.bipush 99, 2) := by decide +kernel
theorem dX11_scale_19 : decode cX11_scale 19 = .ok (.invokestatic 87, 3) := by decide +kernel
theorem dX11_scale_22 : decode cX11_scale 22 = .ok (.ifCond .eq 12, 3) := by decide +kernel
theorem dX11_scale_25 : decode cX11_scale 25 = .ok (.iload_n 3, 1) := by decide +kernel
theorem dX11_scale_26 : decode cX11_scale 26 = .ok (.iconst 0, 1) := by decide +kernel
theorem dX11_scale_27 : decode cX11_scale 27 = .ok (.iconst 3, 1) := by decide +kernel
theorem dX11_scale_28 : decode cX11_scale 28 = .ok (.invokestatic 87, 3) := by decide +kernel
theorem dX11_scale_31 : decode cX11_scale 31 = .ok (.ifCond .ne 7, 3) := by decide +kernel
theorem dX11_scale_34 : decode cX11_scale 34 = .ok (.iconst 1, 1) := by decide +kernel
theorem dX11_scale_35 : decode cX11_scale 35 = .ok (.goto 4, 3) := by decide +kernel
theorem dX11_scale_38 : decode cX11_scale 38 = .ok (.iconst 0, 1) := by decide +kernel
theorem dX11_scale_39 : decode cX11_scale 39 = .ok (.iconst 1, 1) := by decide +kernel
theorem dX11_scale_40 : decode cX11_scale 40 = .ok (.invokevirtual 190, 3) := by decide +kernel
theorem dX11_scale_43 : decode cX11_scale 43 = .ok (.ifCond .ne 26, 3) := by decide +kernel
theorem dX11_scale_46 : decode cX11_scale 46 = .ok (.aload_n 0, 1) := by decide +kernel
theorem dX11_scale_47 : decode cX11_scale 47 = .ok (.aload_n 0, 1) := by decide +kernel
theorem dX11_scale_48 : decode cX11_scale 48 = .ok (.getfield 13, 3) := by decide +kernel
theorem dX11_scale_51 : decode cX11_scale 51 = .ok (.iconst 1, 1) := by decide +kernel
theorem dX11_scale_52 : decode cX11_scale 52 = .ok (.iaload, 1) := by decide +kernel
theorem dX11_scale_53 : decode cX11_scale 53 = .ok (.iconst 4, 1) := by decide +kernel
theorem dX11_scale_54 : decode cX11_scale 54 = .ok (.if_icmp .ne 7, 3) := by decide +kernel
theorem dX11_scale_57 : decode cX11_scale 57 = .ok (.iconst 1, 1) := by decide +kernel
theorem dX11_scale_58 : decode cX11_scale 58 = .ok (.goto 4, 3) := by decide +kernel
theorem dX11_scale_61 : decode cX11_scale 61 = .ok (.iconst 0, 1) := by decide +kernel
theorem dX11_scale_62 : decode cX11_scale 62 = .ok (.iconst 2, 1) := by decide +kernel
theorem dX11_scale_63 : decode cX11_scale 63 = .ok (.invokevirtual 190, 3) := by decide +kernel
theorem dX11_scale_66 : decode cX11_scale 66 = .ok (.ifCond .eq 5, 3) := by decide +kernel
theorem dX11_scale_69 : decode cX11_scale 69 = .ok (.iconst 0, 1) := by decide +kernel
theorem dX11_scale_70 : decode cX11_scale 70 = .ok (.ireturn, 1) := by decide +kernel
theorem dX11_scale_71 : decode cX11_scale 71 = .ok (.bipush 11, 2) := by decide +kernel
theorem dX11_scale_73 : decode cX11_scale 73 = .ok (.iconst 3, 1) := by decide +kernel
theorem dX11_scale_74 : decode cX11_scale 74 = .ok (.aload_n 0, 1) := by decide +kernel
theorem dX11_scale_75 : decode cX11_scale 75 = .ok (.getfield 13, 3) := by decide +kernel
theorem dX11_scale_78 : decode cX11_scale 78 = .ok (.iconst 1, 1) := by decide +kernel
theorem dX11_scale_79 : decode cX11_scale 79 = .ok (.iaload, 1) := by decide +kernel
theorem dX11_scale_80 : decode cX11_scale 80 = .ok (.imul, 1) := by decide +kernel
theorem dX11_scale_81 : decode cX11_scale 81 = .ok (.iadd, 1) := by decide +kernel
theorem dX11_scale_82 : decode cX11_scale 82 = .ok (.istore 4, 2) := by decide +kernel
theorem dX11_scale_84 : decode cX11_scale 84 = .ok (.aload_n 0, 1) := by decide +kernel
theorem dX11_scale_85 : decode cX11_scale 85 = .ok (.getfield 13, 3) := by decide +kernel
theorem dX11_scale_88 : decode cX11_scale 88 = .ok (.iload 4, 2) := by decide +kernel
theorem dX11_scale_90 : decode cX11_scale 90 = .ok (.iload_n 1, 1) := by decide +kernel
theorem dX11_scale_91 : decode cX11_scale 91 = .ok (.iastore, 1) := by decide +kernel
theorem dX11_scale_92 : decode cX11_scale 92 = .ok (.aload_n 0, 1) := by decide +kernel
theorem dX11_scale_93 : decode cX11_scale 93 = .ok (.getfield 13, 3) := by decide +kernel
theorem dX11_scale_96 : decode cX11_scale 96 = .ok (.iload 4, 2) := by decide +kernel
theorem dX11_scale_98 : decode cX11_scale 98 = .ok (.iconst 1, 1) := by decide +kernel
theorem dX11_scale_99 : decode cX11_scale 99 = .ok (.iadd, 1) := by decide +kernel
theorem dX11_scale_100 : decode cX11_scale 100 = .ok (.iload_n 2, 1) := by decide +kernel
theorem dX11_scale_101 : decode cX11_scale 101 = .ok (.iastore, 1) := by decide +kernel
theorem dX11_scale_102 : decode cX11_scale 102 = .ok (.aload_n 0, 1) := by decide +kernel
theorem dX11_scale_103 : decode cX11_scale 103 = .ok (.getfield 13, 3) := by decide +kernel
theorem dX11_scale_106 : decode cX11_scale 106 = .ok (.iload 4, 2) := by decide +kernel
theorem dX11_scale_108 : decode cX11_scale 108 = .ok (.iconst 2, 1) := by decide +kernel
theorem dX11_scale_109 : decode cX11_scale 109 = .ok (.iadd, 1) := by decide +kernel
theorem dX11_scale_110 : decode cX11_scale 110 = .ok (.iload_n 3, 1) := by decide +kernel
theorem dX11_scale_111 : decode cX11_scale 111 = .ok (.iastore, 1) := by decide +kernel
theorem dX11_scale_112 : decode cX11_scale 112 = .ok (.aload_n 0, 1) := by decide +kernel
theorem dX11_scale_113 : decode cX11_scale 113 = .ok (.getfield 13, 3) := by decide +kernel
theorem dX11_scale_116 : decode cX11_scale 116 = .ok (.iconst 1, 1) := by decide +kernel
theorem dX11_scale_117 : decode cX11_scale 117 = .ok (.dup2, 1) := by decide +kernel
theorem dX11_scale_118 : decode cX11_scale 118 = .ok (.iaload, 1) := by decide +kernel
theorem dX11_scale_119 : decode cX11_scale 119 = .ok (.iconst 1, 1) := by decide +kernel
theorem dX11_scale_120 : decode cX11_scale 120 = .ok (.iadd, 1) := by decide +kernel
theorem dX11_scale_121 : decode cX11_scale 121 = .ok (.iastore, 1) := by decide +kernel
theorem dX11_scale_122 : decode cX11_scale 122 = .ok (.aload_n 0, 1) := by decide +kernel
theorem dX11_scale_123 : decode cX11_scale 123 = .ok (.getfield 13, 3) := by decide +kernel
theorem dX11_scale_126 : decode cX11_scale 126 = .ok (.iconst 1, 1) := by decide +kernel
theorem dX11_scale_127 : decode cX11_scale 127 = .ok (.iaload, 1) := by decide +kernel
theorem dX11_scale_128 : decode cX11_scale 128 = .ok (.iconst 1, 1) := by decide +kernel
theorem dX11_scale_129 : decode cX11_scale 129 = .ok (.isub, 1) := by decide +kernel
theorem dX11_scale_130 : decode cX11_scale 130 = .ok (.ireturn, 1) := by decide +kernel
def VX11_scale_62 (d : Nat) (Q : Out → MS → Prop) (x0 : Nat) (x1 : Int) (x2 : Int) (x3 : Int) (t0 : Int) (t1 : Nat) (S : MS) : Prop :=
  S.K t1 = 11 ∧ Mw hX11_throwsIf yX11_throwsIf d [vA t1, vI t0, vI 2] S (oI (fun r1 S1 => R32 r1 ∧ ((r1 = 0) → S1.K x0 = 11 ∧ ∃ b2, S1.R x0 1 = some b2 ∧ ((S1.K b2 = 13 ∧ 0 ≤ (1 : Int) ∧ (1 : Int) < S1.N b2) ∧ (S1.K x0 = 11 ∧ ∃ b3, S1.R x0 1 = some b3 ∧ ((S1.K b3 = 13 ∧ 0 ≤ (11 + (3 * (S1.I b2 ((1 : Int)).toNat))) ∧ (11 + (3 * (S1.I b2 ((1 : Int)).toNat))) < S1.N b3) ∧ ((S1.setI b3 ((11 + (3 * (S1.I b2 ((1 : Int)).toNat)))).toNat x1).K x0 = 11 ∧ ∃ b4, (S1.setI b3 ((11 + (3 * (S1.I b2 ((1 : Int)).toNat)))).toNat x1).R x0 1 = some b4 ∧ (((S1.setI b3 ((11 + (3 * (S1.I b2 ((1 : Int)).toNat)))).toNat x1).K b4 = 13 ∧ 0 ≤ ((11 + (3 * (S1.I b2 ((1 : Int)).toNat))) + 1) ∧ ((11 + (3 * (S1.I b2 ((1 : Int)).toNat))) + 1) < (S1.setI b3 ((11 + (3 * (S1.I b2 ((1 : Int)).toNat)))).toNat x1).N b4) ∧ (∀ S5 : MS, S5 = (S1.setI b3 ((11 + (3 * (S1.I b2 ((1 : Int)).toNat)))).toNat x1).setI b4 (((11 + (3 * (S1.I b2 ((1 : Int)).toNat))) + 1)).toNat x2 → S5.K x0 = 11 ∧ ∃ b6, S5.R x0 1 = some b6 ∧ ((S5.K b6 = 13 ∧ 0 ≤ ((11 + (3 * (S1.I b2 ((1 : Int)).toNat))) + 2) ∧ ((11 + (3 * (S1.I b2 ((1 : Int)).toNat))) + 2) < S5.N b6) ∧ ((S5.setI b6 (((11 + (3 * (S1.I b2 ((1 : Int)).toNat))) + 2)).toNat x3).K x0 = 11 ∧ ∃ b7, (S5.setI b6 (((11 + (3 * (S1.I b2 ((1 : Int)).toNat))) + 2)).toNat x3).R x0 1 = some b7 ∧ (((S5.setI b6 (((11 + (3 * (S1.I b2 ((1 : Int)).toNat))) + 2)).toNat x3).K b7 = 13 ∧ 0 ≤ (1 : Int) ∧ (1 : Int) < (S5.setI b6 (((11 + (3 * (S1.I b2 ((1 : Int)).toNat))) + 2)).toNat x3).N b7) ∧ (((S5.setI b6 (((11 + (3 * (S1.I b2 ((1 : Int)).toNat))) + 2)).toNat x3).K b7 = 13 ∧ 0 ≤ (1 : Int) ∧ (1 : Int) < (S5.setI b6 (((11 + (3 * (S1.I b2 ((1 : Int)).toNat))) + 2)).toNat x3).N b7) ∧ (∀ S8 : MS, S8 = (S5.setI b6 (((11 + (3 * (S1.I b2 ((1 : Int)).toNat))) + 2)).toNat x3).setI b7 ((1 : Int)).toNat (((S5.setI b6 (((11 + (3 * (S1.I b2 ((1 : Int)).toNat))) + 2)).toNat x3).I b7 ((1 : Int)).toNat) + 1) → S8.K x0 = 11 ∧ ∃ b9, S8.R x0 1 = some b9 ∧ ((S8.K b9 = 13 ∧ 0 ≤ (1 : Int) ∧ (1 : Int) < S8.N b9) ∧ (Q (.inl (some (vI ((S8.I b9 ((1 : Int)).toNat) - 1)))) S8)))))))))))))) ∧ (¬ (r1 = 0) → Q (.inl (some (vI 0))) S1)))
theorem JX11_scale_62 {d : Nat} {S0 : MS} {Q : Out → MS → Prop} (x0 : Nat) (x1 : Int) (x2 : Int) (x3 : Int) (t0 : Int) (t1 : Nat) (S : MS) (h : VX11_scale_62 d Q x0 x1 x2 x3 t0 t1 S) : Jw FinM RX11 cX11_scale 5 (some .int) [] yX11_scale (d + 1) S0 S 62 [(0, vA x0), (1, vI x1), (2, vI x2), (3, vI x3)] [vI t0, vA t1] Q :=
  j_iconst dX11_scale_62 (j_callV (rest := []) 11 [vI t0, vI 2] k_RX11_190 ⟨w_7_191, p_4_7⟩ ⟨_, _, rfl⟩ (by decide) rfl rfl (Nat.le_of_ble_eq_true rfl) dX11_scale_63 h (kI (fun r1 S1 h => j_if_eq (tgt := 71) dX11_scale_66 (by decide) h (fun h => j_bipush dX11_scale_71 rfl (j_iconst dX11_scale_73 (j_aload_n 0 dX11_scale_74 rfl (j_getR 11 1 f_RX11_13 dX11_scale_75 h (fun b2 h => j_iconst dX11_scale_78 (j_iald dX11_scale_79 h (fun h => j_imul dX11_scale_80 (j_iadd dX11_scale_81 (j_istore (lv2 := [(4, vI (11 + (3 * (S1.I b2 ((1 : Int)).toNat)))), (0, vA x0), (1, vI x1), (2, vI x2), (3, vI x3)]) dX11_scale_82 (by decide) rfl (j_aload_n 1 dX11_scale_84 rfl (j_getR 11 1 f_RX11_13 dX11_scale_85 h (fun b3 h => j_iload 0 dX11_scale_88 rfl (j_iload_n 2 dX11_scale_90 rfl (j_iast dX11_scale_91 h (fun h => j_aload_n 1 dX11_scale_92 rfl (j_getR 11 1 f_RX11_13 dX11_scale_93 h (fun b4 h => j_iload 0 dX11_scale_96 rfl (j_iconst dX11_scale_98 (j_iadd dX11_scale_99 (j_iload_n 3 dX11_scale_100 rfl (j_iast dX11_scale_101 h (fun h => j_bind h (fun S5 h => j_aload_n 1 dX11_scale_102 rfl (j_getR 11 1 f_RX11_13 dX11_scale_103 h (fun b6 h => j_iload 0 dX11_scale_106 rfl (j_iconst dX11_scale_108 (j_iadd dX11_scale_109 (j_iload_n 4 dX11_scale_110 rfl (j_iast dX11_scale_111 h (fun h => j_aload_n 1 dX11_scale_112 rfl (j_getR 11 1 f_RX11_13 dX11_scale_113 h (fun b7 h => j_iconst dX11_scale_116 (j_dup2 rfl rfl dX11_scale_117 (j_iald dX11_scale_118 h (fun h => j_iconst dX11_scale_119 (j_iadd dX11_scale_120 (j_iast dX11_scale_121 h (fun h => j_bind h (fun S8 h => j_aload_n 1 dX11_scale_122 rfl (j_getR 11 1 f_RX11_13 dX11_scale_123 h (fun b9 h => j_iconst dX11_scale_126 (j_iald dX11_scale_127 h (fun h => j_iconst dX11_scale_128 (j_isub dX11_scale_129 (j_iret rfl dX11_scale_130 h))))))))))))))))))))))))))))))))))))))))))))) (fun h => j_iconst dX11_scale_69 (j_iret rfl dX11_scale_70 h)))) (fun _ _ h => h.elim))
def VX11_scale_39 (d : Nat) (Q : Out → MS → Prop) (x0 : Nat) (x1 : Int) (x2 : Int) (x3 : Int) (t0 : Int) (t1 : Nat) (S : MS) : Prop :=
  S.K t1 = 11 ∧ Mw hX11_throwsIf yX11_throwsIf d [vA t1, vI t0, vI 1] S (oI (fun r1 S1 => R32 r1 ∧ (¬ (r1 = 0) → Q (.inl (some (vI 0))) S1) ∧ ((r1 = 0) → S1.K x0 = 11 ∧ ∃ b2, S1.R x0 1 = some b2 ∧ ((S1.K b2 = 13 ∧ 0 ≤ (1 : Int) ∧ (1 : Int) < S1.N b2) ∧ ((R32 (S1.I b2 ((1 : Int)).toNat) ∧ R32 (4 : Int)) ∧ (¬ ((S1.I b2 ((1 : Int)).toNat) = (4 : Int)) → VX11_scale_62 d Q x0 x1 x2 x3 0 x0 S1) ∧ (((S1.I b2 ((1 : Int)).toNat) = (4 : Int)) → VX11_scale_62 d Q x0 x1 x2 x3 1 x0 S1))))))
theorem JX11_scale_39 {d : Nat} {S0 : MS} {Q : Out → MS → Prop} (x0 : Nat) (x1 : Int) (x2 : Int) (x3 : Int) (t0 : Int) (t1 : Nat) (S : MS) (h : VX11_scale_39 d Q x0 x1 x2 x3 t0 t1 S) : Jw FinM RX11 cX11_scale 5 (some .int) [] yX11_scale (d + 1) S0 S 39 [(0, vA x0), (1, vI x1), (2, vI x2), (3, vI x3)] [vI t0, vA t1] Q :=
  j_iconst dX11_scale_39 (j_callV (rest := []) 11 [vI t0, vI 1] k_RX11_190 ⟨w_7_191, p_4_7⟩ ⟨_, _, rfl⟩ (by decide) rfl rfl (Nat.le_of_ble_eq_true rfl) dX11_scale_40 h (kI (fun r1 S1 h => j_if_ne (tgt := 69) dX11_scale_43 (by decide) h (fun h => j_iconst dX11_scale_69 (j_iret rfl dX11_scale_70 h)) (fun h => j_aload_n 0 dX11_scale_46 rfl (j_aload_n 0 dX11_scale_47 rfl (j_getR 11 1 f_RX11_13 dX11_scale_48 h (fun b2 h => j_iconst dX11_scale_51 (j_iald dX11_scale_52 h (fun h => j_iconst dX11_scale_53 (j_icmp_ne (tgt := 61) dX11_scale_54 (by decide) h (fun h => j_iconst dX11_scale_61 (JX11_scale_62 _ _ _ _ _ _ _ h)) (fun h => j_iconst dX11_scale_57 (j_goto (tgt := 62) dX11_scale_58 (by decide) (JX11_scale_62 _ _ _ _ _ _ _ h)))))))))))) (fun _ _ h => h.elim))
def VX11_scale_34 (d : Nat) (Q : Out → MS → Prop) (x0 : Nat) (x1 : Int) (x2 : Int) (x3 : Int) (t0 : Nat) (S : MS) : Prop :=
  VX11_scale_39 d Q x0 x1 x2 x3 1 t0 S
theorem JX11_scale_34 {d : Nat} {S0 : MS} {Q : Out → MS → Prop} (x0 : Nat) (x1 : Int) (x2 : Int) (x3 : Int) (t0 : Nat) (S : MS) (h : VX11_scale_34 d Q x0 x1 x2 x3 t0 S) : Jw FinM RX11 cX11_scale 5 (some .int) [] yX11_scale (d + 1) S0 S 34 [(0, vA x0), (1, vI x1), (2, vI x2), (3, vI x3)] [vA t0] Q :=
  j_iconst dX11_scale_34 (j_goto (tgt := 39) dX11_scale_35 (by decide) (JX11_scale_39 _ _ _ _ _ _ _ h))
def VX11_scale_0 (d : Nat) (Q : Out → MS → Prop) (x0 : Nat) (x1 : Int) (x2 : Int) (x3 : Int) (S : MS) : Prop :=
  S.K x0 = 11 ∧ (Mw hX11_in yX11_in d [vI x1, vI 0, vI 2] (S.setI x0 0 0) (oI (fun r1 S1 => R32 r1 ∧ ((r1 = 0) → VX11_scale_34 d Q x0 x1 x2 x3 x0 S1) ∧ (¬ (r1 = 0) → Mw hX11_in yX11_in d [vI x2, vI 0, vI 99] S1 (oI (fun r2 S2 => R32 r2 ∧ ((r2 = 0) → VX11_scale_34 d Q x0 x1 x2 x3 x0 S2) ∧ (¬ (r2 = 0) → Mw hX11_in yX11_in d [vI x3, vI 0, vI 3] S2 (oI (fun r3 S3 => R32 r3 ∧ (¬ (r3 = 0) → VX11_scale_39 d Q x0 x1 x2 x3 0 x0 S3) ∧ ((r3 = 0) → VX11_scale_34 d Q x0 x1 x2 x3 x0 S3))))))))))
theorem JX11_scale_0 {d : Nat} {S0 : MS} {Q : Out → MS → Prop} (x0 : Nat) (x1 : Int) (x2 : Int) (x3 : Int) (S : MS) (h : VX11_scale_0 d Q x0 x1 x2 x3 S) : Jw FinM RX11 cX11_scale 5 (some .int) [] yX11_scale (d + 1) S0 S 0 [(0, vA x0), (1, vI x1), (2, vI x2), (3, vI x3)] [] Q :=
  j_aload_n 0 dX11_scale_0 rfl (j_iconst dX11_scale_1 (j_putI 11 0 f_RX11_3 dX11_scale_2 h (fun h => j_aload_n 0 dX11_scale_5 rfl (j_iload_n 1 dX11_scale_6 rfl (j_iconst dX11_scale_7 (j_iconst dX11_scale_8 (j_callS (rest := [vA x0]) [vI x1, vI 0, vI 2] k_RX11_87 w_7_198 rfl rfl (Nat.le_of_ble_eq_true rfl) dX11_scale_9 h (kI (fun r1 S1 h => j_if_eq (tgt := 34) dX11_scale_12 (by decide) h (fun h => JX11_scale_34 _ _ _ _ _ _ h) (fun h => j_iload_n 2 dX11_scale_15 rfl (j_iconst dX11_scale_16 (j_bipush dX11_scale_17 rfl (j_callS (rest := [vA x0]) [vI x2, vI 0, vI 99] k_RX11_87 w_7_198 rfl rfl (Nat.le_of_ble_eq_true rfl) dX11_scale_19 h (kI (fun r2 S2 h => j_if_eq (tgt := 34) dX11_scale_22 (by decide) h (fun h => JX11_scale_34 _ _ _ _ _ _ h) (fun h => j_iload_n 3 dX11_scale_25 rfl (j_iconst dX11_scale_26 (j_iconst dX11_scale_27 (j_callS (rest := [vA x0]) [vI x3, vI 0, vI 3] k_RX11_87 w_7_198 rfl rfl (Nat.le_of_ble_eq_true rfl) dX11_scale_28 h (kI (fun r3 S3 h => j_if_ne (tgt := 38) dX11_scale_31 (by decide) h (fun h => j_iconst dX11_scale_38 (JX11_scale_39 _ _ _ _ _ _ _ h)) (fun h => JX11_scale_34 _ _ _ _ _ _ h))) (fun _ _ h => h.elim))))))) (fun _ _ h => h.elim))))))) (fun _ _ h => h.elim))))))))
theorem MX11_scale {d : Nat} {x0 : Nat} {x1 : Int} {x2 : Int} {x3 : Int} {S : MS} {Q : Out → MS → Prop} (h : VX11_scale_0 d Q x0 x1 x2 x3 S) : Mw hX11_scale yX11_scale (d + 1) [vA x0, vI x1, vI x2, vI x3] S Q := Mw.ofJ (by decide) (Nat.le_of_ble_eq_true rfl) (JX11_scale_0 _ _ _ _ S h)
theorem dX11_weight_0 : decode cX11_weight 0 = .ok (.aload_n 0, 1) := by decide +kernel
theorem dX11_weight_1 : decode cX11_weight 1 = .ok (.iconst 0, 1) := by decide +kernel
theorem dX11_weight_2 : decode cX11_weight 2 = .ok (.putfield 3, 3) := by decide +kernel
theorem dX11_weight_5 : decode cX11_weight 5 = .ok (.aload_n 0, 1) := by decide +kernel
theorem dX11_weight_6 : decode cX11_weight 6 = .ok (.aload_n 0, 1) := by decide +kernel
theorem dX11_weight_7 : decode cX11_weight 7 = .ok (.iload_n 1, 1) := by decide +kernel
theorem dX11_weight_8 : decode cX11_weight 8 = .ok (.invokevirtual 194, 3) := by decide +kernel
theorem dX11_weight_11 : decode cX11_weight 11 = .ok (.iconst 1, 1) := by decide +kernel
theorem dX11_weight_12 : decode cX11_weight 12 = .ok (.invokevirtual 190, 3) := by decide +kernel
theorem dX11_weight_15 : decode cX11_weight 15 = .ok (.ifCond .ne 27, 3) := by decide +kernel
theorem dX11_weight_18 : decode cX11_weight 18 = .ok (.aload_n 0, 1) := by decide +kernel
theorem dX11_weight_19 : decode cX11_weight 19 = .ok (.iload_n 2, 1) := by decide +kernel
theorem dX11_weight_20 : decode cX11_weight 20 = .ok (.iconst 0, 1) := by decide +kernel
theorem dX11_weight_21 : decode cX11_weight 21 = .ok (.sipush 999, 3) := by decide +kernel
theorem dX11_weight_24 : decode cX11_weight 24 = .ok (.invokestatic 87, 3) := by decide +kernel
theorem dX11_weight_27 : decode cX11_weight 27 = .ok (.ifCond .ne 7, 3) := by decide +kernel
theorem dX11_weight_30 : decode cX11_weight 30 = .ok (.iconst 1, 1) := by decide +kernel
theorem dX11_weight_31 : decode cX11_weight 31 = .ok (.goto 4, 3) := by decide +kernel
theorem dX11_weight_34 : decode cX11_weight 34 = .ok (.iconst 0, 1) := by decide +kernel
theorem dX11_weight_35 : decode cX11_weight 35 = .ok (.iconst 2, 1) := by decide +kernel
theorem dX11_weight_36 : decode cX11_weight 36 = .ok (.invokevirtual 190, 3) := by decide +kernel
theorem dX11_weight_39 : decode cX11_weight 39 = .ok (.ifCond .eq 5, 3) := by decide +kernel
theorem dX11_weight_42 : decode cX11_weight 42 = .ok (.iconst 0, 1) := by decide +kernel
theorem dX11_weight_43 : decode cX11_weight 43 = .ok (.ireturn, 1) := by decide +kernel
theorem dX11_weight_44 : decode cX11_weight 44 = .ok (.aload_n 0, 1) := by decide +kernel
theorem dX11_weight_45 : decode cX11_weight 45 = .ok (.getfield 13, 3) := by decide +kernel
theorem dX11_weight_48 : decode cX11_weight 48 = .ok (.iconst 4, 1) := by decide +kernel
theorem dX11_weight_49 : decode cX11_weight 49 = .ok (.iload_n 1, 1) := by decide +kernel
theorem dX11_weight_50 : decode cX11_weight 50 = .ok (.iadd, 1) := by decide +kernel
theorem dX11_weight_51 : decode cX11_weight 51 = .ok (.iaload, 1) := by decide +kernel
theorem dX11_weight_52 : decode cX11_weight 52 = .ok (.istore_n 3, 1) := by decide +kernel
theorem dX11_weight_53 : decode cX11_weight 53 = .ok (.aload_n 0, 1) := by decide +kernel
theorem dX11_weight_54 : decode cX11_weight 54 = .ok (.getfield 13, 3) := by decide +kernel
theorem dX11_weight_57 : decode cX11_weight 57 = .ok (.iconst 4, 1) := by decide +kernel
theorem dX11_weight_58 : decode cX11_weight 58 = .ok (.iload_n 1, 1) := by decide +kernel
theorem dX11_weight_59 : decode cX11_weight 59 = .ok (.iadd, 1) := by decide +kernel
theorem dX11_weight_60 : decode cX11_weight 60 = .ok (.iload_n 2, 1) := by decide +kernel
theorem dX11_weight_61 : decode cX11_weight 61 = .ok (.iastore, 1) := by decide +kernel
theorem dX11_weight_62 : decode cX11_weight 62 = .ok (.iload_n 3, 1) := by decide +kernel
theorem dX11_weight_63 : decode cX11_weight 63 = .ok (.ireturn, 1) := by decide +kernel
def VX11_weight_35 (d : Nat) (Q : Out → MS → Prop) (x0 : Nat) (x1 : Int) (x2 : Int) (t0 : Int) (t1 : Nat) (S : MS) : Prop :=
  S.K t1 = 11 ∧ Mw hX11_throwsIf yX11_throwsIf d [vA t1, vI t0, vI 2] S (oI (fun r1 S1 => R32 r1 ∧ ((r1 = 0) → S1.K x0 = 11 ∧ ∃ b2, S1.R x0 1 = some b2 ∧ ((S1.K b2 = 13 ∧ 0 ≤ (4 + x1) ∧ (4 + x1) < S1.N b2) ∧ (S1.K x0 = 11 ∧ ∃ b3, S1.R x0 1 = some b3 ∧ ((S1.K b3 = 13 ∧ 0 ≤ (4 + x1) ∧ (4 + x1) < S1.N b3) ∧ (Q (.inl (some (vI (S1.I b2 ((4 + x1)).toNat)))) (S1.setI b3 ((4 + x1)).toNat x2)))))) ∧ (¬ (r1 = 0) → Q (.inl (some (vI 0))) S1)))
theorem JX11_weight_35 {d : Nat} {S0 : MS} {Q : Out → MS → Prop} (x0 : Nat) (x1 : Int) (x2 : Int) (t0 : Int) (t1 : Nat) (S : MS) (h : VX11_weight_35 d Q x0 x1 x2 t0 t1 S) : Jw FinM RX11 cX11_weight 4 (some .int) [] yX11_weight (d + 1) S0 S 35 [(0, vA x0), (1, vI x1), (2, vI x2)] [vI t0, vA t1] Q :=
  j_iconst dX11_weight_35 (j_callV (rest := []) 11 [vI t0, vI 2] k_RX11_190 ⟨w_7_191, p_4_7⟩ ⟨_, _, rfl⟩ (by decide) rfl rfl (Nat.le_of_ble_eq_true rfl) dX11_weight_36 h (kI (fun r1 S1 h => j_if_eq (tgt := 44) dX11_weight_39 (by decide) h (fun h => j_aload_n 0 dX11_weight_44 rfl (j_getR 11 1 f_RX11_13 dX11_weight_45 h (fun b2 h => j_iconst dX11_weight_48 (j_iload_n 1 dX11_weight_49 rfl (j_iadd dX11_weight_50 (j_iald dX11_weight_51 h (fun h => j_istore_n (lv2 := [(3, vI (S1.I b2 ((4 + x1)).toNat)), (0, vA x0), (1, vI x1), (2, vI x2)]) dX11_weight_52 (by decide) rfl (j_aload_n 1 dX11_weight_53 rfl (j_getR 11 1 f_RX11_13 dX11_weight_54 h (fun b3 h => j_iconst dX11_weight_57 (j_iload_n 2 dX11_weight_58 rfl (j_iadd dX11_weight_59 (j_iload_n 3 dX11_weight_60 rfl (j_iast dX11_weight_61 h (fun h => j_iload_n 0 dX11_weight_62 rfl (j_iret rfl dX11_weight_63 h)))))))))))))))) (fun h => j_iconst dX11_weight_42 (j_iret rfl dX11_weight_43 h)))) (fun _ _ h => h.elim))
def VX11_weight_0 (d : Nat) (Q : Out → MS → Prop) (x0 : Nat) (x1 : Int) (x2 : Int) (S : MS) : Prop :=
  S.K x0 = 11 ∧ ((S.setI x0 0 0).K x0 = 11 ∧ Mw hX11_noThing yX11_noThing d [vA x0, vI x1] (S.setI x0 0 0) (oI (fun r1 S1 => S1.K x0 = 11 ∧ Mw hX11_throwsIf yX11_throwsIf d [vA x0, vI r1, vI 1] S1 (oI (fun r2 S2 => R32 r2 ∧ (¬ (r2 = 0) → Q (.inl (some (vI 0))) S2) ∧ ((r2 = 0) → Mw hX11_in yX11_in d [vI x2, vI 0, vI 999] S2 (oI (fun r3 S3 => R32 r3 ∧ (¬ (r3 = 0) → VX11_weight_35 d Q x0 x1 x2 0 x0 S3) ∧ ((r3 = 0) → VX11_weight_35 d Q x0 x1 x2 1 x0 S3)))))))))
theorem JX11_weight_0 {d : Nat} {S0 : MS} {Q : Out → MS → Prop} (x0 : Nat) (x1 : Int) (x2 : Int) (S : MS) (h : VX11_weight_0 d Q x0 x1 x2 S) : Jw FinM RX11 cX11_weight 4 (some .int) [] yX11_weight (d + 1) S0 S 0 [(0, vA x0), (1, vI x1), (2, vI x2)] [] Q :=
  j_aload_n 0 dX11_weight_0 rfl (j_iconst dX11_weight_1 (j_putI 11 0 f_RX11_3 dX11_weight_2 h (fun h => j_aload_n 0 dX11_weight_5 rfl (j_aload_n 0 dX11_weight_6 rfl (j_iload_n 1 dX11_weight_7 rfl (j_callV (rest := [vA x0]) 11 [vI x1] k_RX11_194 ⟨w_7_214, p_4_9⟩ ⟨_, _, rfl⟩ (by decide) rfl rfl (Nat.le_of_ble_eq_true rfl) dX11_weight_8 h (kI (fun r1 S1 h => j_iconst dX11_weight_11 (j_callV (rest := []) 11 [vI r1, vI 1] k_RX11_190 ⟨w_7_191, p_4_7⟩ ⟨_, _, rfl⟩ (by decide) rfl rfl (Nat.le_of_ble_eq_true rfl) dX11_weight_12 h (kI (fun r2 S2 h => j_if_ne (tgt := 42) dX11_weight_15 (by decide) h (fun h => j_iconst dX11_weight_42 (j_iret rfl dX11_weight_43 h)) (fun h => j_aload_n 0 dX11_weight_18 rfl (j_iload_n 2 dX11_weight_19 rfl (j_iconst dX11_weight_20 (j_sipush dX11_weight_21 rfl (j_callS (rest := [vA x0]) [vI x2, vI 0, vI 999] k_RX11_87 w_7_198 rfl rfl (Nat.le_of_ble_eq_true rfl) dX11_weight_24 h (kI (fun r3 S3 h => j_if_ne (tgt := 34) dX11_weight_27 (by decide) h (fun h => j_iconst dX11_weight_34 (JX11_weight_35 _ _ _ _ _ _ h)) (fun h => j_iconst dX11_weight_30 (j_goto (tgt := 35) dX11_weight_31 (by decide) (JX11_weight_35 _ _ _ _ _ _ h))))) (fun _ _ h => h.elim)))))))) (fun _ _ h => h.elim)))) (fun _ _ h => h.elim)))))))
theorem MX11_weight {d : Nat} {x0 : Nat} {x1 : Int} {x2 : Int} {S : MS} {Q : Out → MS → Prop} (h : VX11_weight_0 d Q x0 x1 x2 S) : Mw hX11_weight yX11_weight (d + 1) [vA x0, vI x1, vI x2] S Q := Mw.ofJ (by decide) (Nat.le_of_ble_eq_true rfl) (JX11_weight_0 _ _ _ S h)
theorem dX11_outweighs_0 : decode cX11_outweighs 0 = .ok (.aload_n 0, 1) := by decide +kernel
theorem dX11_outweighs_1 : decode cX11_outweighs 1 = .ok (.getfield 13, 3) := by decide +kernel
theorem dX11_outweighs_4 : decode cX11_outweighs 4 = .ok (.iconst 4, 1) := by decide +kernel
theorem dX11_outweighs_5 : decode cX11_outweighs 5 = .ok (.iload_n 1, 1) := by decide +kernel
theorem dX11_outweighs_6 : decode cX11_outweighs 6 = .ok (.iadd, 1) := by decide +kernel
theorem dX11_outweighs_7 : decode cX11_outweighs 7 = .ok (.iaload, 1) := by decide +kernel
theorem dX11_outweighs_8 : decode cX11_outweighs 8 = .ok (.aload_n 0, 1) := by decide +kernel
theorem dX11_outweighs_9 : decode cX11_outweighs 9 = .ok (.getfield 13, 3) := by decide +kernel
theorem dX11_outweighs_12 : decode cX11_outweighs 12 = .ok (.iconst 4, 1) := by decide +kernel
theorem dX11_outweighs_13 : decode cX11_outweighs 13 = .ok (.iload_n 2, 1) := by decide +kernel
theorem dX11_outweighs_14 : decode cX11_outweighs 14 = .ok (.iadd, 1) := by decide +kernel
theorem dX11_outweighs_15 : decode cX11_outweighs 15 = .ok (.iaload, 1) := by decide +kernel
theorem dX11_outweighs_16 : decode cX11_outweighs 16 = .ok (.if_icmp .eq 30, 3) := by decide +kernel
theorem dX11_outweighs_19 : decode cX11_outweighs 19 = .ok (.aload_n 0, 1) := by decide +kernel
theorem dX11_outweighs_20 : decode cX11_outweighs 20 = .ok (.getfield 13, 3) := by decide +kernel
theorem dX11_outweighs_23 : decode cX11_outweighs 23 = .ok (.iconst 4, 1) := by decide +kernel
theorem dX11_outweighs_24 : decode cX11_outweighs 24 = .ok (.iload_n 1, 1) := by decide +kernel
theorem dX11_outweighs_25 : decode cX11_outweighs 25 = .ok (.iadd, 1) := by decide +kernel
theorem dX11_outweighs_26 : decode cX11_outweighs 26 = .ok (.iaload, 1) := by decide +kernel
theorem dX11_outweighs_27 : decode cX11_outweighs 27 = .ok (.aload_n 0, 1) := by decide +kernel
theorem dX11_outweighs_28 : decode cX11_outweighs 28 = .ok (.getfield 13, 3) := by decide +kernel
theorem dX11_outweighs_31 : decode cX11_outweighs 31 = .ok (.iconst 4, 1) := by decide +kernel
theorem dX11_outweighs_32 : decode cX11_outweighs 32 = .ok (.iload_n 2, 1) := by decide +kernel
theorem dX11_outweighs_33 : decode cX11_outweighs 33 = .ok (.iadd, 1) := by decide +kernel
theorem dX11_outweighs_34 : decode cX11_outweighs 34 = .ok (.iaload, 1) := by decide +kernel
theorem dX11_outweighs_35 : decode cX11_outweighs 35 = .ok (.if_icmp .le 7, 3) := by decide +kernel
theorem dX11_outweighs_38 : decode cX11_outweighs 38 = .ok (.iconst 1, 1) := by decide +kernel
theorem dX11_outweighs_39 : decode cX11_outweighs 39 = .ok (.goto 17, 3) := by decide +kernel
theorem dX11_outweighs_42 : decode cX11_outweighs 42 = .ok (.iconst 0, 1) := by decide +kernel
theorem dX11_outweighs_43 : decode cX11_outweighs 43 = .ok (.goto 13, 3) := by decide +kernel
theorem dX11_outweighs_46 : decode cX11_outweighs 46 = .ok (.iload_n 1, 1) := by decide +kernel
theorem dX11_outweighs_47 : decode cX11_outweighs 47 = .ok (.iload_n 2, 1) := by decide +kernel
theorem dX11_outweighs_48 : decode cX11_outweighs 48 = .ok (.if_icmp .le 7, 3) := by decide +kernel
theorem dX11_outweighs_51 : decode cX11_outweighs 51 = .ok (.iconst 1, 1) := by decide +kernel
theorem dX11_outweighs_52 : decode cX11_outweighs 52 = .ok (.goto 4, 3) := by decide +kernel
theorem dX11_outweighs_55 : decode cX11_outweighs 55 = .ok (.iconst 0, 1) := by decide +kernel
theorem dX11_outweighs_56 : decode cX11_outweighs 56 = .ok (.ireturn, 1) := by decide +kernel
def VX11_outweighs_0 (d : Nat) (Q : Out → MS → Prop) (x0 : Nat) (x1 : Int) (x2 : Int) (S : MS) : Prop :=
  S.K x0 = 11 ∧ ∃ b1, S.R x0 1 = some b1 ∧ ((S.K b1 = 13 ∧ 0 ≤ (4 + x1) ∧ (4 + x1) < S.N b1) ∧ (S.K x0 = 11 ∧ ∃ b2, S.R x0 1 = some b2 ∧ ((S.K b2 = 13 ∧ 0 ≤ (4 + x2) ∧ (4 + x2) < S.N b2) ∧ ((R32 (S.I b1 ((4 + x1)).toNat) ∧ R32 (S.I b2 ((4 + x2)).toNat)) ∧ (((S.I b1 ((4 + x1)).toNat) = (S.I b2 ((4 + x2)).toNat)) → (R32 x1 ∧ R32 x2) ∧ ((x1 ≤ x2) → B01 0 ∧ Q (.inl (some (vI 0))) S) ∧ (¬ (x1 ≤ x2) → B01 1 ∧ Q (.inl (some (vI 1))) S)) ∧ (¬ ((S.I b1 ((4 + x1)).toNat) = (S.I b2 ((4 + x2)).toNat)) → S.K x0 = 11 ∧ ∃ b3, S.R x0 1 = some b3 ∧ ((S.K b3 = 13 ∧ 0 ≤ (4 + x1) ∧ (4 + x1) < S.N b3) ∧ (S.K x0 = 11 ∧ ∃ b4, S.R x0 1 = some b4 ∧ ((S.K b4 = 13 ∧ 0 ≤ (4 + x2) ∧ (4 + x2) < S.N b4) ∧ ((R32 (S.I b3 ((4 + x1)).toNat) ∧ R32 (S.I b4 ((4 + x2)).toNat)) ∧ (((S.I b3 ((4 + x1)).toNat) ≤ (S.I b4 ((4 + x2)).toNat)) → B01 0 ∧ Q (.inl (some (vI 0))) S) ∧ (¬ ((S.I b3 ((4 + x1)).toNat) ≤ (S.I b4 ((4 + x2)).toNat)) → B01 1 ∧ Q (.inl (some (vI 1))) S))))))))))
theorem JX11_outweighs_0 {d : Nat} {S0 : MS} {Q : Out → MS → Prop} (x0 : Nat) (x1 : Int) (x2 : Int) (S : MS) (h : VX11_outweighs_0 d Q x0 x1 x2 S) : Jw FinM RX11 cX11_outweighs 3 (some .boolean) [] yX11_outweighs (d + 1) S0 S 0 [(0, vA x0), (1, vI x1), (2, vI x2)] [] Q :=
  j_aload_n 0 dX11_outweighs_0 rfl (j_getR 11 1 f_RX11_13 dX11_outweighs_1 h (fun b1 h => j_iconst dX11_outweighs_4 (j_iload_n 1 dX11_outweighs_5 rfl (j_iadd dX11_outweighs_6 (j_iald dX11_outweighs_7 h (fun h => j_aload_n 0 dX11_outweighs_8 rfl (j_getR 11 1 f_RX11_13 dX11_outweighs_9 h (fun b2 h => j_iconst dX11_outweighs_12 (j_iload_n 2 dX11_outweighs_13 rfl (j_iadd dX11_outweighs_14 (j_iald dX11_outweighs_15 h (fun h => j_icmp_eq (tgt := 46) dX11_outweighs_16 (by decide) h (fun h => j_iload_n 1 dX11_outweighs_46 rfl (j_iload_n 2 dX11_outweighs_47 rfl (j_icmp_le (tgt := 55) dX11_outweighs_48 (by decide) h (fun h => j_iconst dX11_outweighs_55 (j_zret rfl dX11_outweighs_56 h)) (fun h => j_iconst dX11_outweighs_51 (j_goto (tgt := 56) dX11_outweighs_52 (by decide) (j_zret rfl dX11_outweighs_56 h)))))) (fun h => j_aload_n 0 dX11_outweighs_19 rfl (j_getR 11 1 f_RX11_13 dX11_outweighs_20 h (fun b3 h => j_iconst dX11_outweighs_23 (j_iload_n 1 dX11_outweighs_24 rfl (j_iadd dX11_outweighs_25 (j_iald dX11_outweighs_26 h (fun h => j_aload_n 0 dX11_outweighs_27 rfl (j_getR 11 1 f_RX11_13 dX11_outweighs_28 h (fun b4 h => j_iconst dX11_outweighs_31 (j_iload_n 2 dX11_outweighs_32 rfl (j_iadd dX11_outweighs_33 (j_iald dX11_outweighs_34 h (fun h => j_icmp_le (tgt := 42) dX11_outweighs_35 (by decide) h (fun h => j_iconst dX11_outweighs_42 (j_goto (tgt := 56) dX11_outweighs_43 (by decide) (j_zret rfl dX11_outweighs_56 h))) (fun h => j_iconst dX11_outweighs_38 (j_goto (tgt := 56) dX11_outweighs_39 (by decide) (j_zret rfl dX11_outweighs_56 h))))))))))))))))))))))))))))
theorem MX11_outweighs {d : Nat} {x0 : Nat} {x1 : Int} {x2 : Int} {S : MS} {Q : Out → MS → Prop} (h : VX11_outweighs_0 d Q x0 x1 x2 S) : Mw hX11_outweighs yX11_outweighs (d + 1) [vA x0, vI x1, vI x2] S Q := Mw.ofJ (by decide) (Nat.le_of_ble_eq_true rfl) (JX11_outweighs_0 _ _ _ S h)
theorem dX11_below_0 : decode cX11_below 0 = .ok (.iload_n 0, 1) := by decide +kernel
theorem dX11_below_1 : decode cX11_below 1 = .ok (.iconst 1, 1) := by decide +kernel
theorem dX11_below_2 : decode cX11_below 2 = .ok (.if_icmp .ne 7, 3) := by decide +kernel
theorem dX11_below_5 : decode cX11_below 5 = .ok (.iconst 2, 1) := by decide +kernel
theorem dX11_below_6 : decode cX11_below 6 = .ok (.goto 4, 3) := by decide +kernel
theorem dX11_below_9 : decode cX11_below 9 = .ok (.iconst 1, 1) := by decide +kernel
theorem dX11_below_10 : decode cX11_below 10 = .ok (.ireturn, 1) := by decide +kernel
def VX11_below_0 (d : Nat) (Q : Out → MS → Prop) (x0 : Int) (S : MS) : Prop :=
  (R32 x0 ∧ R32 (1 : Int)) ∧ (¬ (x0 = (1 : Int)) → Q (.inl (some (vI 1))) S) ∧ ((x0 = (1 : Int)) → Q (.inl (some (vI 2))) S)
theorem JX11_below_0 {d : Nat} {S0 : MS} {Q : Out → MS → Prop} (x0 : Int) (S : MS) (h : VX11_below_0 d Q x0 S) : Jw FinM RX11 cX11_below 1 (some .int) [] yX11_below (d + 1) S0 S 0 [(0, vI x0)] [] Q :=
  j_iload_n 0 dX11_below_0 rfl (j_iconst dX11_below_1 (j_icmp_ne (tgt := 9) dX11_below_2 (by decide) h (fun h => j_iconst dX11_below_9 (j_iret rfl dX11_below_10 h)) (fun h => j_iconst dX11_below_5 (j_goto (tgt := 10) dX11_below_6 (by decide) (j_iret rfl dX11_below_10 h)))))
theorem MX11_below {d : Nat} {x0 : Int} {S : MS} {Q : Out → MS → Prop} (h : VX11_below_0 d Q x0 S) : Mw hX11_below yX11_below (d + 1) [vI x0] S Q := Mw.ofJ (by decide) (Nat.le_of_ble_eq_true rfl) (JX11_below_0 _ S h)
theorem dX11_truly_0 : decode cX11_truly 0 = .ok (.iconst 0, 1) := by decide +kernel
theorem dX11_truly_1 : decode cX11_truly 1 = .ok (.istore_n 3, 1) := by decide +kernel
theorem dX11_truly_2 : decode cX11_truly 2 = .ok (.iload_n 3, 1) := by decide +kernel
theorem dX11_truly_3 : decode cX11_truly 3 = .ok (.aload_n 0, 1) := by decide +kernel
theorem dX11_truly_4 : decode cX11_truly 4 = .ok (.invokevirtual 83, 3) := by decide +kernel
theorem dX11_truly_7 : decode cX11_truly 7 = .ok (.if_icmp .ge 88, 3) := by decide +kernel
theorem dX11_truly_10 : decode cX11_truly 10 = .ok (.iload_n 2, 1) := by decide +kernel
theorem dX11_truly_11 : decode cX11_truly 11 = .ok (.iload_n 3, 1) := by decide +kernel
theorem dX11_truly_12 : decode cX11_truly 12 = .ok (.ishr, 1) := by decide +kernel
theorem dX11_truly_13 : decode cX11_truly 13 = .ok (.iconst 1, 1) := by decide +kernel
theorem dX11_truly_14 : decode cX11_truly 14 = .ok (.iand, 1) := by decide +kernel
theorem dX11_truly_15 : decode cX11_truly 15 = .ok (.ifCond .ne 6, 3) := by decide +kernel
theorem dX11_truly_18 : decode cX11_truly 18 = .ok (.goto 71, 3) := by decide +kernel
theorem dX11_truly_21 : decode cX11_truly 21 = .ok (.iconst 0, 1) := by decide +kernel
theorem dX11_truly_22 : decode cX11_truly 22 = .ok (.istore 4, 2) := by decide +kernel
theorem dX11_truly_24 : decode cX11_truly 24 = .ok (.iconst 0, 1) := by decide +kernel
theorem dX11_truly_25 : decode cX11_truly 25 = .ok (.istore 5, 2) := by decide +kernel
theorem dX11_truly_27 : decode cX11_truly 27 = .ok (.iload 5, 2) := by decide +kernel
theorem dX11_truly_29 : decode cX11_truly 29 = .ok (.aload_n 0, 1) := by decide +kernel
theorem dX11_truly_30 : decode cX11_truly 30 = .ok (.invokevirtual 83, 3) := by decide +kernel
theorem dX11_truly_33 : decode cX11_truly 33 = .ok (.if_icmp .ge 45, 3) := by decide +kernel
theorem dX11_truly_36 : decode cX11_truly 36 = .ok (.iload 4, 2) := by decide +kernel
theorem dX11_truly_38 : decode cX11_truly 38 = .ok (.iload 5, 2) := by decide +kernel
theorem dX11_truly_40 : decode cX11_truly 40 = .ok (.iload_n 3, 1) := by decide +kernel
theorem dX11_truly_41 : decode cX11_truly 41 = .ok (.if_icmp .eq 27, 3) := by decide +kernel
theorem dX11_truly_44 : decode cX11_truly 44 = .ok (.iload_n 2, 1) := by decide +kernel
theorem dX11_truly_45 : decode cX11_truly 45 = .ok (.iload 5, 2) := by decide +kernel
theorem dX11_truly_47 : decode cX11_truly 47 = .ok (.ishr, 1) := by decide +kernel
theorem dX11_truly_48 : decode cX11_truly 48 = .ok (.iconst 1, 1) := by decide +kernel
theorem dX11_truly_49 : decode cX11_truly 49 = .ok (.iand, 1) := by decide +kernel
theorem dX11_truly_50 : decode cX11_truly 50 = .ok (.iconst 1, 1) := by decide +kernel
theorem dX11_truly_51 : decode cX11_truly 51 = .ok (.if_icmp .ne 17, 3) := by decide +kernel
theorem dX11_truly_54 : decode cX11_truly 54 = .ok (.aload_n 0, 1) := by decide +kernel
theorem dX11_truly_55 : decode cX11_truly 55 = .ok (.iload_n 3, 1) := by decide +kernel
theorem dX11_truly_56 : decode cX11_truly 56 = .ok (.iload 5, 2) := by decide +kernel
theorem dX11_truly_58 : decode cX11_truly 58 = .ok (.invokevirtual 197, 3) := by decide +kernel
theorem dX11_truly_61 : decode cX11_truly 61 = .ok (.ifCond .eq 7, 3) := by decide +kernel
theorem dX11_truly_64 : decode cX11_truly 64 = .ok (.iconst 1, 1) := by decide +kernel
theorem dX11_truly_65 : decode cX11_truly 65 = .ok (.goto 4, 3) := by decide +kernel
theorem dX11_truly_68 : decode cX11_truly 68 = .ok (.iconst 0, 1) := by decide +kernel
theorem dX11_truly_69 : decode cX11_truly 69 = .ok (.iadd, 1) := by decide +kernel
theorem dX11_truly_70 : decode cX11_truly 70 = .ok (.istore 4, 2) := by decide +kernel
theorem dX11_truly_72 : decode cX11_truly 72 = .ok (.iinc 5 1, 3) := by decide +kernel
theorem dX11_truly_75 : decode cX11_truly 75 = .ok (.goto (-48), 3) := by decide +kernel
theorem dX11_truly_78 : decode cX11_truly 78 = .ok (.iload 4, 2) := by decide +kernel
theorem dX11_truly_80 : decode cX11_truly 80 = .ok (.iload_n 1, 1) := by decide +kernel
theorem dX11_truly_81 : decode cX11_truly 81 = .ok (.invokestatic 200, 3) := by decide +kernel
theorem dX11_truly_84 : decode cX11_truly 84 = .ok (.if_icmp .ne 5, 3) := by decide +kernel
theorem dX11_truly_87 : decode cX11_truly 87 = .ok (.iload_n 3, 1) := by decide +kernel
theorem dX11_truly_88 : decode cX11_truly 88 = .ok (.ireturn, 1) := by decide +kernel
theorem dX11_truly_89 : decode cX11_truly 89 = .ok (.iinc 3 1, 3) := by decide +kernel
theorem dX11_truly_92 : decode cX11_truly 92 = .ok (.goto (-90), 3) := by decide +kernel
theorem dX11_truly_95 : decode cX11_truly 95 = .ok (.iconst (-1), 1) := by decide +kernel
theorem dX11_truly_96 : decode cX11_truly 96 = .ok (.ireturn, 1) := by decide +kernel
def VX11_truly_69 (d : Nat) (c2 : Nat → Int → Int → Int → MS → Prop) (c27 : Nat → Int → Int → Int → Int → Int → MS → Prop) (Q : Out → MS → Prop) (x0 : Nat) (x1 : Int) (x2 : Int) (x3 : Int) (x5 : Int) (t0 : Int) (t1 : Int) (S : MS) : Prop :=
  c27 x0 x1 x2 x3 (t1 + t0) (x5 + 1) S
theorem JX11_truly_69 {d : Nat} {c2 : Nat → Int → Int → Int → MS → Prop} {c27 : Nat → Int → Int → Int → Int → Int → MS → Prop} {S0 : MS} {Q : Out → MS → Prop} (hc2 : ∀ (x0 : Nat) (x1 : Int) (x2 : Int) (x3 : Int) (S : MS), c2 x0 x1 x2 x3 S → Jw FinM RX11 cX11_truly 6 (some .int) [] yX11_truly (d + 1) S0 S 2 [(0, vA x0), (1, vI x1), (2, vI x2), (3, vI x3)] [] Q) (hc27 : ∀ (x0 : Nat) (x1 : Int) (x2 : Int) (x3 : Int) (x4 : Int) (x5 : Int) (S : MS), c27 x0 x1 x2 x3 x4 x5 S → Jw FinM RX11 cX11_truly 6 (some .int) [] yX11_truly (d + 1) S0 S 27 [(0, vA x0), (1, vI x1), (2, vI x2), (3, vI x3), (4, vI x4), (5, vI x5)] [] Q) (x0 : Nat) (x1 : Int) (x2 : Int) (x3 : Int) (x5 : Int) (t0 : Int) (t1 : Int) (S : MS) (h : VX11_truly_69 d c2 c27 Q x0 x1 x2 x3 x5 t0 t1 S) : Jw FinM RX11 cX11_truly 6 (some .int) [] yX11_truly (d + 1) S0 S 69 [(0, vA x0), (1, vI x1), (2, vI x2), (3, vI x3), (5, vI x5)] [vI t0, vI t1] Q :=
  j_iadd dX11_truly_69 (j_istore (lv2 := [(4, vI (t1 + t0)), (0, vA x0), (1, vI x1), (2, vI x2), (3, vI x3), (5, vI x5)]) dX11_truly_70 (by decide) rfl (j_iinc 5 (lv2 := [(5, vI (x5 + 1)), (4, vI (t1 + t0)), (0, vA x0), (1, vI x1), (2, vI x2), (3, vI x3)]) dX11_truly_72 rfl (by decide) rfl (j_goto (tgt := 27) dX11_truly_75 (by decide) (j_sub [2, 3, 4, 5, 1, 0] rfl (hc27 _ _ _ _ _ _ _ h)))))
def VX11_truly_68 (d : Nat) (c2 : Nat → Int → Int → Int → MS → Prop) (c27 : Nat → Int → Int → Int → Int → Int → MS → Prop) (Q : Out → MS → Prop) (x0 : Nat) (x1 : Int) (x2 : Int) (x3 : Int) (x5 : Int) (t0 : Int) (S : MS) : Prop :=
  VX11_truly_69 d c2 c27 Q x0 x1 x2 x3 x5 0 t0 S
theorem JX11_truly_68 {d : Nat} {c2 : Nat → Int → Int → Int → MS → Prop} {c27 : Nat → Int → Int → Int → Int → Int → MS → Prop} {S0 : MS} {Q : Out → MS → Prop} (hc2 : ∀ (x0 : Nat) (x1 : Int) (x2 : Int) (x3 : Int) (S : MS), c2 x0 x1 x2 x3 S → Jw FinM RX11 cX11_truly 6 (some .int) [] yX11_truly (d + 1) S0 S 2 [(0, vA x0), (1, vI x1), (2, vI x2), (3, vI x3)] [] Q) (hc27 : ∀ (x0 : Nat) (x1 : Int) (x2 : Int) (x3 : Int) (x4 : Int) (x5 : Int) (S : MS), c27 x0 x1 x2 x3 x4 x5 S → Jw FinM RX11 cX11_truly 6 (some .int) [] yX11_truly (d + 1) S0 S 27 [(0, vA x0), (1, vI x1), (2, vI x2), (3, vI x3), (4, vI x4), (5, vI x5)] [] Q) (x0 : Nat) (x1 : Int) (x2 : Int) (x3 : Int) (x5 : Int) (t0 : Int) (S : MS) (h : VX11_truly_68 d c2 c27 Q x0 x1 x2 x3 x5 t0 S) : Jw FinM RX11 cX11_truly 6 (some .int) [] yX11_truly (d + 1) S0 S 68 [(0, vA x0), (1, vI x1), (2, vI x2), (3, vI x3), (5, vI x5)] [vI t0] Q :=
  j_iconst dX11_truly_68 (JX11_truly_69 hc2 hc27 _ _ _ _ _ _ _ _ h)
def VX11_truly_89 (d : Nat) (c2 : Nat → Int → Int → Int → MS → Prop) (Q : Out → MS → Prop) (x0 : Nat) (x1 : Int) (x2 : Int) (x3 : Int) (S : MS) : Prop :=
  c2 x0 x1 x2 (x3 + 1) S
theorem JX11_truly_89 {d : Nat} {c2 : Nat → Int → Int → Int → MS → Prop} {S0 : MS} {Q : Out → MS → Prop} (hc2 : ∀ (x0 : Nat) (x1 : Int) (x2 : Int) (x3 : Int) (S : MS), c2 x0 x1 x2 x3 S → Jw FinM RX11 cX11_truly 6 (some .int) [] yX11_truly (d + 1) S0 S 2 [(0, vA x0), (1, vI x1), (2, vI x2), (3, vI x3)] [] Q) (x0 : Nat) (x1 : Int) (x2 : Int) (x3 : Int) (S : MS) (h : VX11_truly_89 d c2 Q x0 x1 x2 x3 S) : Jw FinM RX11 cX11_truly 6 (some .int) [] yX11_truly (d + 1) S0 S 89 [(0, vA x0), (1, vI x1), (2, vI x2), (3, vI x3)] [] Q :=
  j_iinc 3 (lv2 := [(3, vI (x3 + 1)), (0, vA x0), (1, vI x1), (2, vI x2)]) dX11_truly_89 rfl (by decide) rfl (j_goto (tgt := 2) dX11_truly_92 (by decide) (j_sub [1, 2, 3, 0] rfl (hc2 _ _ _ _ _ h)))
def VX11_truly_27 (d : Nat) (c2 : Nat → Int → Int → Int → MS → Prop) (Q : Out → MS → Prop) : Nat → Nat → Int → Int → Int → Int → Int → MS → Prop
  | 0, _, _, _, _, _, _, _ => False
  | n + 1, x0, x1, x2, x3, x4, x5, S => S.K x0 = 11 ∧ Mw hX11_things yX11_things d [vA x0] S (oI (fun r1 S1 => (R32 x5 ∧ R32 r1) ∧ ((r1 ≤ x5) → Mw hX11_below yX11_below d [vI x1] S1 (oI (fun r2 S2 => (R32 x4 ∧ R32 r2) ∧ (¬ (x4 = r2) → VX11_truly_89 d c2 Q x0 x1 x2 x3 S2) ∧ ((x4 = r2) → Q (.inl (some (vI x3))) S2)))) ∧ (¬ (r1 ≤ x5) → (R32 x5 ∧ R32 x3) ∧ ((x5 = x3) → VX11_truly_68 d c2 (VX11_truly_27 d c2 Q n) Q x0 x1 x2 x3 x5 x4 S1) ∧ (¬ (x5 = x3) → (R32 (iAnd (iShr x2 x5) 1) ∧ R32 (1 : Int)) ∧ (¬ ((iAnd (iShr x2 x5) 1) = (1 : Int)) → VX11_truly_68 d c2 (VX11_truly_27 d c2 Q n) Q x0 x1 x2 x3 x5 x4 S1) ∧ (((iAnd (iShr x2 x5) 1) = (1 : Int)) → S1.K x0 = 11 ∧ Mw hX11_outweighs yX11_outweighs d [vA x0, vI x3, vI x5] S1 (oI (fun r3 S3 => R32 r3 ∧ ((r3 = 0) → VX11_truly_68 d c2 (VX11_truly_27 d c2 Q n) Q x0 x1 x2 x3 x5 x4 S3) ∧ (¬ (r3 = 0) → VX11_truly_69 d c2 (VX11_truly_27 d c2 Q n) Q x0 x1 x2 x3 x5 1 x4 S3))))))))
theorem JX11_truly_27 {d : Nat} {c2 : Nat → Int → Int → Int → MS → Prop} {S0 : MS} {Q : Out → MS → Prop} (hc2 : ∀ (x0 : Nat) (x1 : Int) (x2 : Int) (x3 : Int) (S : MS), c2 x0 x1 x2 x3 S → Jw FinM RX11 cX11_truly 6 (some .int) [] yX11_truly (d + 1) S0 S 2 [(0, vA x0), (1, vI x1), (2, vI x2), (3, vI x3)] [] Q) : ∀ (n : Nat) (x0 : Nat) (x1 : Int) (x2 : Int) (x3 : Int) (x4 : Int) (x5 : Int) (S : MS), VX11_truly_27 d c2 Q n x0 x1 x2 x3 x4 x5 S → Jw FinM RX11 cX11_truly 6 (some .int) [] yX11_truly (d + 1) S0 S 27 [(0, vA x0), (1, vI x1), (2, vI x2), (3, vI x3), (4, vI x4), (5, vI x5)] [] Q := by
  intro n
  induction n with
  | zero => intro x0 x1 x2 x3 x4 x5 S h; exact h.elim
  | succ n ih =>
    intro x0 x1 x2 x3 x4 x5 S h
    exact j_iload 5 dX11_truly_27 rfl (j_aload_n 0 dX11_truly_29 rfl (j_callV (rest := [vI x5]) 11 [] k_RX11_83 ⟨w_7_218, p_4_10⟩ ⟨_, _, rfl⟩ (by decide) rfl rfl (Nat.le_of_ble_eq_true rfl) dX11_truly_30 h (kI (fun r1 S1 h => j_icmp_ge (tgt := 78) dX11_truly_33 (by decide) h (fun h => j_iload 4 dX11_truly_78 rfl (j_iload_n 1 dX11_truly_80 rfl (j_callS (rest := [vI x4]) [vI x1] k_RX11_200 w_8_10 rfl rfl (Nat.le_of_ble_eq_true rfl) dX11_truly_81 h (kI (fun r2 S2 h => j_icmp_ne (tgt := 89) dX11_truly_84 (by decide) h (fun h => j_sub [0, 1, 2, 3] rfl (JX11_truly_89 hc2 _ _ _ _ _ h)) (fun h => j_iload_n 3 dX11_truly_87 rfl (j_iret rfl dX11_truly_88 h)))) (fun _ _ h => h.elim)))) (fun h => j_iload 4 dX11_truly_36 rfl (j_iload 5 dX11_truly_38 rfl (j_iload_n 3 dX11_truly_40 rfl (j_icmp_eq (tgt := 68) dX11_truly_41 (by decide) h (fun h => j_sub [0, 1, 2, 3, 5] rfl (JX11_truly_68 hc2 ih _ _ _ _ _ _ _ h)) (fun h => j_iload_n 2 dX11_truly_44 rfl (j_iload 5 dX11_truly_45 rfl (j_ishr dX11_truly_47 (j_iconst dX11_truly_48 (j_iand dX11_truly_49 (j_iconst dX11_truly_50 (j_icmp_ne (tgt := 68) dX11_truly_51 (by decide) h (fun h => j_sub [0, 1, 2, 3, 5] rfl (JX11_truly_68 hc2 ih _ _ _ _ _ _ _ h)) (fun h => j_aload_n 0 dX11_truly_54 rfl (j_iload_n 3 dX11_truly_55 rfl (j_iload 5 dX11_truly_56 rfl (j_callV (rest := [vI x4]) 11 [vI x3, vI x5] k_RX11_197 ⟨w_8_7, p_5_0⟩ ⟨_, _, rfl⟩ (by decide) rfl rfl (Nat.le_of_ble_eq_true rfl) dX11_truly_58 h (kI (fun r3 S3 h => j_if_eq (tgt := 68) dX11_truly_61 (by decide) h (fun h => j_sub [0, 1, 2, 3, 5] rfl (JX11_truly_68 hc2 ih _ _ _ _ _ _ _ h)) (fun h => j_iconst dX11_truly_64 (j_goto (tgt := 69) dX11_truly_65 (by decide) (j_sub [0, 1, 2, 3, 5] rfl (JX11_truly_69 hc2 ih _ _ _ _ _ _ _ _ h)))))) (fun _ _ h => h.elim)))))))))))))))))) (fun _ _ h => h.elim)))
def VX11_truly_2 (d : Nat) (Q : Out → MS → Prop) : Nat → Nat → Int → Int → Int → MS → Prop
  | 0, _, _, _, _, _ => False
  | n + 1, x0, x1, x2, x3, S => S.K x0 = 11 ∧ Mw hX11_things yX11_things d [vA x0] S (oI (fun r1 S1 => (R32 x3 ∧ R32 r1) ∧ ((r1 ≤ x3) → Q (.inl (some (vI ((-1))))) S1) ∧ (¬ (r1 ≤ x3) → R32 (iAnd (iShr x2 x3) 1) ∧ (¬ ((iAnd (iShr x2 x3) 1) = 0) → ∃ m, VX11_truly_27 d (VX11_truly_2 d Q n) Q m x0 x1 x2 x3 0 0 S1) ∧ (((iAnd (iShr x2 x3) 1) = 0) → VX11_truly_89 d (VX11_truly_2 d Q n) Q x0 x1 x2 x3 S1))))
theorem JX11_truly_2 {d : Nat} {S0 : MS} {Q : Out → MS → Prop} : ∀ (n : Nat) (x0 : Nat) (x1 : Int) (x2 : Int) (x3 : Int) (S : MS), VX11_truly_2 d Q n x0 x1 x2 x3 S → Jw FinM RX11 cX11_truly 6 (some .int) [] yX11_truly (d + 1) S0 S 2 [(0, vA x0), (1, vI x1), (2, vI x2), (3, vI x3)] [] Q := by
  intro n
  induction n with
  | zero => intro x0 x1 x2 x3 S h; exact h.elim
  | succ n ih =>
    intro x0 x1 x2 x3 S h
    exact j_iload_n 3 dX11_truly_2 rfl (j_aload_n 0 dX11_truly_3 rfl (j_callV (rest := [vI x3]) 11 [] k_RX11_83 ⟨w_7_218, p_4_10⟩ ⟨_, _, rfl⟩ (by decide) rfl rfl (Nat.le_of_ble_eq_true rfl) dX11_truly_4 h (kI (fun r1 S1 h => j_icmp_ge (tgt := 95) dX11_truly_7 (by decide) h (fun h => j_iconst dX11_truly_95 (j_iret rfl dX11_truly_96 h)) (fun h => j_iload_n 2 dX11_truly_10 rfl (j_iload_n 3 dX11_truly_11 rfl (j_ishr dX11_truly_12 (j_iconst dX11_truly_13 (j_iand dX11_truly_14 (j_if_ne (tgt := 21) dX11_truly_15 (by decide) h (fun h => j_iconst dX11_truly_21 (j_istore (lv2 := [(4, vI 0), (0, vA x0), (1, vI x1), (2, vI x2), (3, vI x3)]) dX11_truly_22 (by decide) rfl (j_iconst dX11_truly_24 (j_istore (lv2 := [(5, vI 0), (4, vI 0), (0, vA x0), (1, vI x1), (2, vI x2), (3, vI x3)]) dX11_truly_25 (by decide) rfl (Exists.elim h (fun m h => j_sub [2, 3, 4, 5, 1, 0] rfl (JX11_truly_27 ih m _ _ _ _ _ _ _ h))))))) (fun h => j_goto (tgt := 89) dX11_truly_18 (by decide) (JX11_truly_89 ih _ _ _ _ _ h)))))))))) (fun _ _ h => h.elim)))
def VX11_truly_0 (d : Nat) (Q : Out → MS → Prop) (x0 : Nat) (x1 : Int) (x2 : Int) (S : MS) : Prop :=
  ∃ m, VX11_truly_2 d Q m x0 x1 x2 0 S
theorem JX11_truly_0 {d : Nat} {S0 : MS} {Q : Out → MS → Prop} (x0 : Nat) (x1 : Int) (x2 : Int) (S : MS) (h : VX11_truly_0 d Q x0 x1 x2 S) : Jw FinM RX11 cX11_truly 6 (some .int) [] yX11_truly (d + 1) S0 S 0 [(0, vA x0), (1, vI x1), (2, vI x2)] [] Q :=
  j_iconst dX11_truly_0 (j_istore_n (lv2 := [(3, vI 0), (0, vA x0), (1, vI x1), (2, vI x2)]) dX11_truly_1 (by decide) rfl (Exists.elim h (fun m h => j_sub [1, 2, 3, 0] rfl (JX11_truly_2 m _ _ _ _ _ h))))
theorem MX11_truly {d : Nat} {x0 : Nat} {x1 : Int} {x2 : Int} {S : MS} {Q : Out → MS → Prop} (h : VX11_truly_0 d Q x0 x1 x2 S) : Mw hX11_truly yX11_truly (d + 1) [vA x0, vI x1, vI x2] S Q := Mw.ofJ (by decide) (Nat.le_of_ble_eq_true rfl) (JX11_truly_0 _ _ _ S h)
theorem dX11_rises_0 : decode cX11_rises 0 = .ok (.aload_n 0, 1) := by decide +kernel
theorem dX11_rises_1 : decode cX11_rises 1 = .ok (.iconst 0, 1) := by decide +kernel
theorem dX11_rises_2 : decode cX11_rises 2 = .ok (.putfield 3, 3) := by decide +kernel
theorem dX11_rises_5 : decode cX11_rises 5 = .ok (.aload_n 0, 1) := by decide +kernel
theorem dX11_rises_6 : decode cX11_rises 6 = .ok (.aload_n 0, 1) := by decide +kernel
theorem dX11_rises_7 : decode cX11_rises 7 = .ok (.iload_n 1, 1) := by decide +kernel
theorem dX11_rises_8 : decode cX11_rises 8 = .ok (.invokevirtual 203, 3) := by decide +kernel
theorem dX11_rises_11 : decode cX11_rises 11 = .ok (.iconst 1, 1) := by decide +kernel
theorem dX11_rises_12 : decode cX11_rises 12 = .ok (.invokevirtual 190, 3) := by decide +kernel
theorem dX11_rises_15 : decode cX11_rises 15 = .ok (.ifCond .ne 17, 3) := by decide +kernel
theorem dX11_rises_18 : decode cX11_rises 18 = .ok (.aload_n 0, 1) := by decide +kernel
theorem dX11_rises_19 : decode cX11_rises 19 = .ok (.aload_n 0, 1) := by decide +kernel
theorem dX11_rises_20 : decode cX11_rises 20 = .ok (.iload_n 1, 1) := by decide +kernel
theorem dX11_rises_21 : decode cX11_rises 21 = .ok (.iload_n 2, 1) := by decide +kernel
theorem dX11_rises_22 : decode cX11_rises 22 = .ok (.invokevirtual 206, 3) := by decide +kernel
theorem dX11_rises_25 : decode cX11_rises 25 = .ok (.iconst 2, 1) := by decide +kernel
theorem dX11_rises_26 : decode cX11_rises 26 = .ok (.invokevirtual 190, 3) := by decide +kernel
theorem dX11_rises_29 : decode cX11_rises 29 = .ok (.ifCond .eq 5, 3) := by decide +kernel
theorem dX11_rises_32 : decode cX11_rises 32 = .ok (.iconst 0, 1) := by decide +kernel
theorem dX11_rises_33 : decode cX11_rises 33 = .ok (.ireturn, 1) := by decide +kernel
theorem dX11_rises_34 : decode cX11_rises 34 = .ok (.aload_n 0, 1) := by decide +kernel
theorem dX11_rises_35 : decode cX11_rises 35 = .ok (.aload_n 0, 1) := by decide +kernel
theorem dX11_rises_36 : decode cX11_rises 36 = .ok (.iload_n 1, 1) := by decide +kernel
theorem dX11_rises_37 : decode cX11_rises 37 = .ok (.iconst 0, 1) := by decide +kernel
theorem dX11_rises_38 : decode cX11_rises 38 = .ok (.invokevirtual 94, 3) := by decide +kernel
theorem dX11_rises_41 : decode cX11_rises 41 = .ok (.iload_n 2, 1) := by decide +kernel
theorem dX11_rises_42 : decode cX11_rises 42 = .ok (.invokevirtual 209, 3) := by decide +kernel
theorem dX11_rises_45 : decode cX11_rises 45 = .ok (.ireturn, 1) := by decide +kernel
def VX11_rises_0 (d : Nat) (Q : Out → MS → Prop) (x0 : Nat) (x1 : Int) (x2 : Int) (S : MS) : Prop :=
  S.K x0 = 11 ∧ ((S.setI x0 0 0).K x0 = 11 ∧ Mw hX11_noScale yX11_noScale d [vA x0, vI x1] (S.setI x0 0 0) (oI (fun r1 S1 => S1.K x0 = 11 ∧ Mw hX11_throwsIf yX11_throwsIf d [vA x0, vI r1, vI 1] S1 (oI (fun r2 S2 => R32 r2 ∧ (¬ (r2 = 0) → Q (.inl (some (vI 0))) S2) ∧ ((r2 = 0) → S2.K x0 = 11 ∧ Mw hX11_isNoSet yX11_isNoSet d [vA x0, vI x1, vI x2] S2 (oI (fun r3 S3 => S3.K x0 = 11 ∧ Mw hX11_throwsIf yX11_throwsIf d [vA x0, vI r3, vI 2] S3 (oI (fun r4 S4 => R32 r4 ∧ ((r4 = 0) → S4.K x0 = 11 ∧ Mw hX11_ofScale yX11_ofScale d [vA x0, vI x1, vI 0] S4 (oI (fun r5 S5 => S5.K x0 = 11 ∧ Mw hX11_truly yX11_truly d [vA x0, vI r5, vI x2] S5 (oI (fun r6 S6 => Q (.inl (some (vI r6))) S6))))) ∧ (¬ (r4 = 0) → Q (.inl (some (vI 0))) S4)))))))))))
theorem JX11_rises_0 {d : Nat} {S0 : MS} {Q : Out → MS → Prop} (x0 : Nat) (x1 : Int) (x2 : Int) (S : MS) (h : VX11_rises_0 d Q x0 x1 x2 S) : Jw FinM RX11 cX11_rises 3 (some .int) [] yX11_rises (d + 1) S0 S 0 [(0, vA x0), (1, vI x1), (2, vI x2)] [] Q :=
  j_aload_n 0 dX11_rises_0 rfl (j_iconst dX11_rises_1 (j_putI 11 0 f_RX11_3 dX11_rises_2 h (fun h => j_aload_n 0 dX11_rises_5 rfl (j_aload_n 0 dX11_rises_6 rfl (j_iload_n 1 dX11_rises_7 rfl (j_callV (rest := [vA x0]) 11 [vI x1] k_RX11_203 ⟨w_7_226, p_4_11⟩ ⟨_, _, rfl⟩ (by decide) rfl rfl (Nat.le_of_ble_eq_true rfl) dX11_rises_8 h (kI (fun r1 S1 h => j_iconst dX11_rises_11 (j_callV (rest := []) 11 [vI r1, vI 1] k_RX11_190 ⟨w_7_191, p_4_7⟩ ⟨_, _, rfl⟩ (by decide) rfl rfl (Nat.le_of_ble_eq_true rfl) dX11_rises_12 h (kI (fun r2 S2 h => j_if_ne (tgt := 32) dX11_rises_15 (by decide) h (fun h => j_iconst dX11_rises_32 (j_iret rfl dX11_rises_33 h)) (fun h => j_aload_n 0 dX11_rises_18 rfl (j_aload_n 0 dX11_rises_19 rfl (j_iload_n 1 dX11_rises_20 rfl (j_iload_n 2 dX11_rises_21 rfl (j_callV (rest := [vA x0]) 11 [vI x1, vI x2] k_RX11_206 ⟨w_7_230, p_4_12⟩ ⟨_, _, rfl⟩ (by decide) rfl rfl (Nat.le_of_ble_eq_true rfl) dX11_rises_22 h (kI (fun r3 S3 h => j_iconst dX11_rises_25 (j_callV (rest := []) 11 [vI r3, vI 2] k_RX11_190 ⟨w_7_191, p_4_7⟩ ⟨_, _, rfl⟩ (by decide) rfl rfl (Nat.le_of_ble_eq_true rfl) dX11_rises_26 h (kI (fun r4 S4 h => j_if_eq (tgt := 34) dX11_rises_29 (by decide) h (fun h => j_aload_n 0 dX11_rises_34 rfl (j_aload_n 0 dX11_rises_35 rfl (j_iload_n 1 dX11_rises_36 rfl (j_iconst dX11_rises_37 (j_callV (rest := [vA x0]) 11 [vI x1, vI 0] k_RX11_94 ⟨w_7_239, p_4_14⟩ ⟨_, _, rfl⟩ (by decide) rfl rfl (Nat.le_of_ble_eq_true rfl) dX11_rises_38 h (kI (fun r5 S5 h => j_iload_n 2 dX11_rises_41 rfl (j_callV (rest := []) 11 [vI r5, vI x2] k_RX11_209 ⟨w_8_3, p_4_15⟩ ⟨_, _, rfl⟩ (by decide) rfl rfl (Nat.le_of_ble_eq_true rfl) dX11_rises_42 h (kI (fun r6 S6 h => j_iret rfl dX11_rises_45 h)) (fun _ _ h => h.elim)))) (fun _ _ h => h.elim)))))) (fun h => j_iconst dX11_rises_32 (j_iret rfl dX11_rises_33 h)))) (fun _ _ h => h.elim)))) (fun _ _ h => h.elim)))))))) (fun _ _ h => h.elim)))) (fun _ _ h => h.elim)))))))
theorem MX11_rises {d : Nat} {x0 : Nat} {x1 : Int} {x2 : Int} {S : MS} {Q : Out → MS → Prop} (h : VX11_rises_0 d Q x0 x1 x2 S) : Mw hX11_rises yX11_rises (d + 1) [vA x0, vI x1, vI x2] S Q := Mw.ofJ (by decide) (Nat.le_of_ble_eq_true rfl) (JX11_rises_0 _ _ _ S h)
theorem dX11_note_0 : decode cX11_note 0 = .ok (.aload_n 0, 1) := by decide +kernel
theorem dX11_note_1 : decode cX11_note 1 = .ok (.iconst 0, 1) := by decide +kernel
theorem dX11_note_2 : decode cX11_note 2 = .ok (.putfield 3, 3) := by decide +kernel
theorem dX11_note_5 : decode cX11_note 5 = .ok (.aload_n 0, 1) := by decide +kernel
theorem dX11_note_6 : decode cX11_note 6 = .ok (.aload_n 0, 1) := by decide +kernel
theorem dX11_note_7 : decode cX11_note 7 = .ok (.iload_n 1, 1) := by decide +kernel
theorem dX11_note_8 : decode cX11_note 8 = .ok (.invokevirtual 203, 3) := by decide +kernel
theorem dX11_note_11 : decode cX11_note 11 = .ok (.iconst 1, 1) := by decide +kernel
theorem dX11_note_12 : decode cX11_note 12 = .ok (.invokevirtual 190, 3) := by decide +kernel
theorem dX11_note_15 : decode cX11_note 15 = .ok (.ifCond .ne 63, 3) := by decide +kernel
theorem dX11_note_18 : decode cX11_note 18 = .ok (.aload_n 0, 1) := by decide +kernel
theorem dX11_note_19 : decode cX11_note 19 = .ok (.aload_n 0, 1) := by decide +kernel
theorem dX11_note_20 : decode cX11_note 20 = .ok (.iload_n 1, 1) := by decide +kernel
theorem dX11_note_21 : decode cX11_note 21 = .ok (.iload_n 2, 1) := by decide +kernel
theorem dX11_note_22 : decode cX11_note 22 = .ok (.invokevirtual 206, 3) := by decide +kernel
theorem dX11_note_25 : decode cX11_note 25 = .ok (.ifCond .ne 19, 3) := by decide +kernel
theorem dX11_note_28 : decode cX11_note 28 = .ok (.aload_n 0, 1) := by decide +kernel
theorem dX11_note_29 : decode cX11_note 29 = .ok (.iload_n 3, 1) := by decide +kernel
theorem dX11_note_30 : decode cX11_note 30 = .ok (.invokevirtual 194, 3) := by decide +kernel
theorem dX11_note_33 : decode cX11_note 33 = .ok (.ifCond .ne 11, 3) := by decide +kernel
theorem dX11_note_36 : decode cX11_note 36 = .ok (.iload_n 2, 1) := by decide +kernel
theorem dX11_note_37 : decode cX11_note 37 = .ok (.iload_n 3, 1) := by decide +kernel
theorem dX11_note_38 : decode cX11_note 38 = .ok (.ishr, 1) := by decide +kernel
theorem dX11_note_39 : decode cX11_note 39 = .ok (.iconst 1, 1) := by decide +kernel
theorem dX11_note_40 : decode cX11_note 40 = .ok (.iand, 1) := by decide +kernel
theorem dX11_note_41 : decode cX11_note 41 = .ok (.ifCond .ne 7, 3) := by decide +kernel
theorem dX11_note_44 : decode cX11_note 44 = .ok (.iconst 1, 1) := by decide +kernel
theorem dX11_note_45 : decode cX11_note 45 = .ok (.goto 4, 3) := by decide +kernel
theorem dX11_note_48 : decode cX11_note 48 = .ok (.iconst 0, 1) := by decide +kernel
theorem dX11_note_49 : decode cX11_note 49 = .ok (.iconst 2, 1) := by decide +kernel
theorem dX11_note_50 : decode cX11_note 50 = .ok (.invokevirtual 190, 3) := by decide +kernel
theorem dX11_note_53 : decode cX11_note 53 = .ok (.ifCond .ne 25, 3) := by decide +kernel
theorem dX11_note_56 : decode cX11_note 56 = .ok (.aload_n 0, 1) := by decide +kernel
theorem dX11_note_57 : decode cX11_note 57 = .ok (.aload_n 0, 1) := by decide +kernel
theorem dX11_note_58 : decode cX11_note 58 = .ok (.invokevirtual 91, 3) := by decide +kernel
theorem dX11_note_61 : decode cX11_note 61 = .ok (.bipush 16, 2) := by decide +kernel
theorem dX11_note_63 : decode cX11_note 63 = .ok (.if_icmp .ne 7, 3) := by decide +kernel
theorem dX11_note_66 : decode cX11_note 66 = .ok (.iconst 1, 1) := by decide +kernel
theorem dX11_note_67 : decode cX11_note 67 = .ok (.goto 4, 3) := by decide +kernel
theorem dX11_note_70 : decode cX11_note 70 = .ok (.iconst 0, 1) := by decide +kernel
theorem dX11_note_71 : decode cX11_note 71 = .ok (.iconst 3, 1) := by decide +kernel
theorem dX11_note_72 : decode cX11_note 72 = .ok (.invokevirtual 190, 3) := by decide +kernel
theorem dX11_note_75 : decode cX11_note 75 = .ok (.ifCond .eq 5, 3) := by decide +kernel
theorem dX11_note_78 : decode cX11_note 78 = .ok (.iconst 0, 1) := by decide +kernel
theorem dX11_note_79 : decode cX11_note 79 = .ok (.ireturn, 1) := by decide +kernel
theorem dX11_note_80 : decode cX11_note 80 = .ok (.bipush 23, 2) := by decide +kernel
theorem dX11_note_82 : decode cX11_note 82 = .ok (.iconst 3, 1) := by decide +kernel
theorem dX11_note_83 : decode cX11_note 83 = .ok (.aload_n 0, 1) := by decide +kernel
theorem dX11_note_84 : decode cX11_note 84 = .ok (.invokevirtual 91, 3) := by decide +kernel
theorem dX11_note_87 : decode cX11_note 87 = .ok (.imul, 1) := by decide +kernel
theorem dX11_note_88 : decode cX11_note 88 = .ok (.iadd, 1) := by decide +kernel
theorem dX11_note_89 : decode cX11_note 89 = .ok (.istore 4, 2) := by decide +kernel
theorem dX11_note_91 : decode cX11_note 91 = .ok (.aload_n 0, 1) := by decide +kernel
theorem dX11_note_92 : decode cX11_note 92 = .ok (.getfield 13, 3) := by decide +kernel
theorem dX11_note_95 : decode cX11_note 95 = .ok (.iload 4, 2) := by decide +kernel
theorem dX11_note_97 : decode cX11_note 97 = .ok (.iload_n 1, 1) := by decide +kernel
theorem dX11_note_98 : decode cX11_note 98 = .ok (.iastore, 1) := by decide +kernel
theorem dX11_note_99 : decode cX11_note 99 = .ok (.aload_n 0, 1) := by decide +kernel
theorem dX11_note_100 : decode cX11_note 100 = .ok (.getfield 13, 3) := by decide +kernel
theorem dX11_note_103 : decode cX11_note 103 = .ok (.iload 4, 2) := by decide +kernel
theorem dX11_note_105 : decode cX11_note 105 = .ok (.iconst 1, 1) := by decide +kernel
theorem dX11_note_106 : decode cX11_note 106 = .ok (.iadd, 1) := by decide +kernel
theorem dX11_note_107 : decode cX11_note 107 = .ok (.iload_n 2, 1) := by decide +kernel
theorem dX11_note_108 : decode cX11_note 108 = .ok (.iastore, 1) := by decide +kernel
theorem dX11_note_109 : decode cX11_note 109 = .ok (.aload_n 0, 1) := by decide +kernel
theorem dX11_note_110 : decode cX11_note 110 = .ok (.getfield 13, 3) := by decide +kernel
theorem dX11_note_113 : decode cX11_note 113 = .ok (.iload 4, 2) := by decide +kernel
theorem dX11_note_115 : decode cX11_note 115 = .ok (.iconst 2, 1) := by decide +kernel
theorem dX11_note_116 : decode cX11_note 116 = .ok (.iadd, 1) := by decide +kernel
theorem dX11_note_117 : decode cX11_note 117 = .ok (.iload_n 3, 1) := by decide +kernel
theorem dX11_note_118 : decode cX11_note 118 = .ok (.iastore, 1) := by decide +kernel
theorem dX11_note_119 : decode cX11_note 119 = .ok (.aload_n 0, 1) := by decide +kernel
theorem dX11_note_120 : decode cX11_note 120 = .ok (.getfield 13, 3) := by decide +kernel
theorem dX11_note_123 : decode cX11_note 123 = .ok (.iconst 2, 1) := by decide +kernel
theorem dX11_note_124 : decode cX11_note 124 = .ok (.dup2, 1) := by decide +kernel
theorem dX11_note_125 : decode cX11_note 125 = .ok (.iaload, 1) := by decide +kernel
theorem dX11_note_126 : decode cX11_note 126 = .ok (.iconst 1, 1) := by decide +kernel
theorem dX11_note_127 : decode cX11_note 127 = .ok (.iadd, 1) := by decide +kernel
theorem dX11_note_128 : decode cX11_note 128 = .ok (.iastore, 1) := by decide +kernel
theorem dX11_note_129 : decode cX11_note 129 = .ok (.aload_n 0, 1) := by decide +kernel
theorem dX11_note_130 : decode cX11_note 130 = .ok (.invokevirtual 91, 3) := by decide +kernel
theorem dX11_note_133 : decode cX11_note 133 = .ok (.iconst 1, 1) := by decide +kernel
theorem dX11_note_134 : decode cX11_note 134 = .ok (.isub, 1) := by decide +kernel
theorem dX11_note_135 : decode cX11_note 135 = .ok (.ireturn, 1) := by decide +kernel
def VX11_note_71 (d : Nat) (Q : Out → MS → Prop) (x0 : Nat) (x1 : Int) (x2 : Int) (x3 : Int) (t0 : Int) (t1 : Nat) (S : MS) : Prop :=
  S.K t1 = 11 ∧ Mw hX11_throwsIf yX11_throwsIf d [vA t1, vI t0, vI 3] S (oI (fun r1 S1 => R32 r1 ∧ ((r1 = 0) → S1.K x0 = 11 ∧ Mw hX11_notes yX11_notes d [vA x0] S1 (oI (fun r2 S2 => S2.K x0 = 11 ∧ ∃ b3, S2.R x0 1 = some b3 ∧ ((S2.K b3 = 13 ∧ 0 ≤ (23 + (3 * r2)) ∧ (23 + (3 * r2)) < S2.N b3) ∧ ((S2.setI b3 ((23 + (3 * r2))).toNat x1).K x0 = 11 ∧ ∃ b4, (S2.setI b3 ((23 + (3 * r2))).toNat x1).R x0 1 = some b4 ∧ (((S2.setI b3 ((23 + (3 * r2))).toNat x1).K b4 = 13 ∧ 0 ≤ ((23 + (3 * r2)) + 1) ∧ ((23 + (3 * r2)) + 1) < (S2.setI b3 ((23 + (3 * r2))).toNat x1).N b4) ∧ (((S2.setI b3 ((23 + (3 * r2))).toNat x1).setI b4 (((23 + (3 * r2)) + 1)).toNat x2).K x0 = 11 ∧ ∃ b5, ((S2.setI b3 ((23 + (3 * r2))).toNat x1).setI b4 (((23 + (3 * r2)) + 1)).toNat x2).R x0 1 = some b5 ∧ ((((S2.setI b3 ((23 + (3 * r2))).toNat x1).setI b4 (((23 + (3 * r2)) + 1)).toNat x2).K b5 = 13 ∧ 0 ≤ ((23 + (3 * r2)) + 2) ∧ ((23 + (3 * r2)) + 2) < ((S2.setI b3 ((23 + (3 * r2))).toNat x1).setI b4 (((23 + (3 * r2)) + 1)).toNat x2).N b5) ∧ (∀ S6 : MS, S6 = ((S2.setI b3 ((23 + (3 * r2))).toNat x1).setI b4 (((23 + (3 * r2)) + 1)).toNat x2).setI b5 (((23 + (3 * r2)) + 2)).toNat x3 → S6.K x0 = 11 ∧ ∃ b7, S6.R x0 1 = some b7 ∧ ((S6.K b7 = 13 ∧ 0 ≤ (2 : Int) ∧ (2 : Int) < S6.N b7) ∧ ((S6.K b7 = 13 ∧ 0 ≤ (2 : Int) ∧ (2 : Int) < S6.N b7) ∧ ((S6.setI b7 ((2 : Int)).toNat ((S6.I b7 ((2 : Int)).toNat) + 1)).K x0 = 11 ∧ Mw hX11_notes yX11_notes d [vA x0] (S6.setI b7 ((2 : Int)).toNat ((S6.I b7 ((2 : Int)).toNat) + 1)) (oI (fun r8 S8 => Q (.inl (some (vI (r8 - 1)))) S8)))))))))))))) ∧ (¬ (r1 = 0) → Q (.inl (some (vI 0))) S1)))
theorem JX11_note_71 {d : Nat} {S0 : MS} {Q : Out → MS → Prop} (x0 : Nat) (x1 : Int) (x2 : Int) (x3 : Int) (t0 : Int) (t1 : Nat) (S : MS) (h : VX11_note_71 d Q x0 x1 x2 x3 t0 t1 S) : Jw FinM RX11 cX11_note 5 (some .int) [] yX11_note (d + 1) S0 S 71 [(0, vA x0), (1, vI x1), (2, vI x2), (3, vI x3)] [vI t0, vA t1] Q :=
  j_iconst dX11_note_71 (j_callV (rest := []) 11 [vI t0, vI 3] k_RX11_190 ⟨w_7_191, p_4_7⟩ ⟨_, _, rfl⟩ (by decide) rfl rfl (Nat.le_of_ble_eq_true rfl) dX11_note_72 h (kI (fun r1 S1 h => j_if_eq (tgt := 80) dX11_note_75 (by decide) h (fun h => j_bipush dX11_note_80 rfl (j_iconst dX11_note_82 (j_aload_n 0 dX11_note_83 rfl (j_callV (rest := [vI 3, vI 23]) 11 [] k_RX11_91 ⟨w_7_202, p_4_8⟩ ⟨_, _, rfl⟩ (by decide) rfl rfl (Nat.le_of_ble_eq_true rfl) dX11_note_84 h (kI (fun r2 S2 h => j_imul dX11_note_87 (j_iadd dX11_note_88 (j_istore (lv2 := [(4, vI (23 + (3 * r2))), (0, vA x0), (1, vI x1), (2, vI x2), (3, vI x3)]) dX11_note_89 (by decide) rfl (j_aload_n 1 dX11_note_91 rfl (j_getR 11 1 f_RX11_13 dX11_note_92 h (fun b3 h => j_iload 0 dX11_note_95 rfl (j_iload_n 2 dX11_note_97 rfl (j_iast dX11_note_98 h (fun h => j_aload_n 1 dX11_note_99 rfl (j_getR 11 1 f_RX11_13 dX11_note_100 h (fun b4 h => j_iload 0 dX11_note_103 rfl (j_iconst dX11_note_105 (j_iadd dX11_note_106 (j_iload_n 3 dX11_note_107 rfl (j_iast dX11_note_108 h (fun h => j_aload_n 1 dX11_note_109 rfl (j_getR 11 1 f_RX11_13 dX11_note_110 h (fun b5 h => j_iload 0 dX11_note_113 rfl (j_iconst dX11_note_115 (j_iadd dX11_note_116 (j_iload_n 4 dX11_note_117 rfl (j_iast dX11_note_118 h (fun h => j_bind h (fun S6 h => j_aload_n 1 dX11_note_119 rfl (j_getR 11 1 f_RX11_13 dX11_note_120 h (fun b7 h => j_iconst dX11_note_123 (j_dup2 rfl rfl dX11_note_124 (j_iald dX11_note_125 h (fun h => j_iconst dX11_note_126 (j_iadd dX11_note_127 (j_iast dX11_note_128 h (fun h => j_aload_n 1 dX11_note_129 rfl (j_callV (rest := []) 11 [] k_RX11_91 ⟨w_7_202, p_4_8⟩ ⟨_, _, rfl⟩ (by decide) rfl rfl (Nat.le_of_ble_eq_true rfl) dX11_note_130 h (kI (fun r8 S8 h => j_iconst dX11_note_133 (j_isub dX11_note_134 (j_iret rfl dX11_note_135 h)))) (fun _ _ h => h.elim))))))))))))))))))))))))))))))))))) (fun _ _ h => h.elim))))) (fun h => j_iconst dX11_note_78 (j_iret rfl dX11_note_79 h)))) (fun _ _ h => h.elim))
def VX11_note_49 (d : Nat) (Q : Out → MS → Prop) (x0 : Nat) (x1 : Int) (x2 : Int) (x3 : Int) (t0 : Int) (t1 : Nat) (S : MS) : Prop :=
  S.K t1 = 11 ∧ Mw hX11_throwsIf yX11_throwsIf d [vA t1, vI t0, vI 2] S (oI (fun r1 S1 => R32 r1 ∧ (¬ (r1 = 0) → Q (.inl (some (vI 0))) S1) ∧ ((r1 = 0) → S1.K x0 = 11 ∧ Mw hX11_notes yX11_notes d [vA x0] S1 (oI (fun r2 S2 => (R32 r2 ∧ R32 (16 : Int)) ∧ (¬ (r2 = (16 : Int)) → VX11_note_71 d Q x0 x1 x2 x3 0 x0 S2) ∧ ((r2 = (16 : Int)) → VX11_note_71 d Q x0 x1 x2 x3 1 x0 S2))))))
theorem JX11_note_49 {d : Nat} {S0 : MS} {Q : Out → MS → Prop} (x0 : Nat) (x1 : Int) (x2 : Int) (x3 : Int) (t0 : Int) (t1 : Nat) (S : MS) (h : VX11_note_49 d Q x0 x1 x2 x3 t0 t1 S) : Jw FinM RX11 cX11_note 5 (some .int) [] yX11_note (d + 1) S0 S 49 [(0, vA x0), (1, vI x1), (2, vI x2), (3, vI x3)] [vI t0, vA t1] Q :=
  j_iconst dX11_note_49 (j_callV (rest := []) 11 [vI t0, vI 2] k_RX11_190 ⟨w_7_191, p_4_7⟩ ⟨_, _, rfl⟩ (by decide) rfl rfl (Nat.le_of_ble_eq_true rfl) dX11_note_50 h (kI (fun r1 S1 h => j_if_ne (tgt := 78) dX11_note_53 (by decide) h (fun h => j_iconst dX11_note_78 (j_iret rfl dX11_note_79 h)) (fun h => j_aload_n 0 dX11_note_56 rfl (j_aload_n 0 dX11_note_57 rfl (j_callV (rest := [vA x0]) 11 [] k_RX11_91 ⟨w_7_202, p_4_8⟩ ⟨_, _, rfl⟩ (by decide) rfl rfl (Nat.le_of_ble_eq_true rfl) dX11_note_58 h (kI (fun r2 S2 h => j_bipush dX11_note_61 rfl (j_icmp_ne (tgt := 70) dX11_note_63 (by decide) h (fun h => j_iconst dX11_note_70 (JX11_note_71 _ _ _ _ _ _ _ h)) (fun h => j_iconst dX11_note_66 (j_goto (tgt := 71) dX11_note_67 (by decide) (JX11_note_71 _ _ _ _ _ _ _ h)))))) (fun _ _ h => h.elim)))))) (fun _ _ h => h.elim))
def VX11_note_44 (d : Nat) (Q : Out → MS → Prop) (x0 : Nat) (x1 : Int) (x2 : Int) (x3 : Int) (t0 : Nat) (S : MS) : Prop :=
  VX11_note_49 d Q x0 x1 x2 x3 1 t0 S
theorem JX11_note_44 {d : Nat} {S0 : MS} {Q : Out → MS → Prop} (x0 : Nat) (x1 : Int) (x2 : Int) (x3 : Int) (t0 : Nat) (S : MS) (h : VX11_note_44 d Q x0 x1 x2 x3 t0 S) : Jw FinM RX11 cX11_note 5 (some .int) [] yX11_note (d + 1) S0 S 44 [(0, vA x0), (1, vI x1), (2, vI x2), (3, vI x3)] [vA t0] Q :=
  j_iconst dX11_note_44 (j_goto (tgt := 49) dX11_note_45 (by decide) (JX11_note_49 _ _ _ _ _ _ _ h))
def VX11_note_0 (d : Nat) (Q : Out → MS → Prop) (x0 : Nat) (x1 : Int) (x2 : Int) (x3 : Int) (S : MS) : Prop :=
  S.K x0 = 11 ∧ ((S.setI x0 0 0).K x0 = 11 ∧ Mw hX11_noScale yX11_noScale d [vA x0, vI x1] (S.setI x0 0 0) (oI (fun r1 S1 => S1.K x0 = 11 ∧ Mw hX11_throwsIf yX11_throwsIf d [vA x0, vI r1, vI 1] S1 (oI (fun r2 S2 => R32 r2 ∧ (¬ (r2 = 0) → Q (.inl (some (vI 0))) S2) ∧ ((r2 = 0) → S2.K x0 = 11 ∧ Mw hX11_isNoSet yX11_isNoSet d [vA x0, vI x1, vI x2] S2 (oI (fun r3 S3 => R32 r3 ∧ (¬ (r3 = 0) → VX11_note_44 d Q x0 x1 x2 x3 x0 S3) ∧ ((r3 = 0) → S3.K x0 = 11 ∧ Mw hX11_noThing yX11_noThing d [vA x0, vI x3] S3 (oI (fun r4 S4 => R32 r4 ∧ (¬ (r4 = 0) → VX11_note_44 d Q x0 x1 x2 x3 x0 S4) ∧ ((r4 = 0) → R32 (iAnd (iShr x2 x3) 1) ∧ (¬ ((iAnd (iShr x2 x3) 1) = 0) → VX11_note_49 d Q x0 x1 x2 x3 0 x0 S4) ∧ (((iAnd (iShr x2 x3) 1) = 0) → VX11_note_44 d Q x0 x1 x2 x3 x0 S4)))))))))))))
theorem JX11_note_0 {d : Nat} {S0 : MS} {Q : Out → MS → Prop} (x0 : Nat) (x1 : Int) (x2 : Int) (x3 : Int) (S : MS) (h : VX11_note_0 d Q x0 x1 x2 x3 S) : Jw FinM RX11 cX11_note 5 (some .int) [] yX11_note (d + 1) S0 S 0 [(0, vA x0), (1, vI x1), (2, vI x2), (3, vI x3)] [] Q :=
  j_aload_n 0 dX11_note_0 rfl (j_iconst dX11_note_1 (j_putI 11 0 f_RX11_3 dX11_note_2 h (fun h => j_aload_n 0 dX11_note_5 rfl (j_aload_n 0 dX11_note_6 rfl (j_iload_n 1 dX11_note_7 rfl (j_callV (rest := [vA x0]) 11 [vI x1] k_RX11_203 ⟨w_7_226, p_4_11⟩ ⟨_, _, rfl⟩ (by decide) rfl rfl (Nat.le_of_ble_eq_true rfl) dX11_note_8 h (kI (fun r1 S1 h => j_iconst dX11_note_11 (j_callV (rest := []) 11 [vI r1, vI 1] k_RX11_190 ⟨w_7_191, p_4_7⟩ ⟨_, _, rfl⟩ (by decide) rfl rfl (Nat.le_of_ble_eq_true rfl) dX11_note_12 h (kI (fun r2 S2 h => j_if_ne (tgt := 78) dX11_note_15 (by decide) h (fun h => j_iconst dX11_note_78 (j_iret rfl dX11_note_79 h)) (fun h => j_aload_n 0 dX11_note_18 rfl (j_aload_n 0 dX11_note_19 rfl (j_iload_n 1 dX11_note_20 rfl (j_iload_n 2 dX11_note_21 rfl (j_callV (rest := [vA x0]) 11 [vI x1, vI x2] k_RX11_206 ⟨w_7_230, p_4_12⟩ ⟨_, _, rfl⟩ (by decide) rfl rfl (Nat.le_of_ble_eq_true rfl) dX11_note_22 h (kI (fun r3 S3 h => j_if_ne (tgt := 44) dX11_note_25 (by decide) h (fun h => JX11_note_44 _ _ _ _ _ _ h) (fun h => j_aload_n 0 dX11_note_28 rfl (j_iload_n 3 dX11_note_29 rfl (j_callV (rest := [vA x0]) 11 [vI x3] k_RX11_194 ⟨w_7_214, p_4_9⟩ ⟨_, _, rfl⟩ (by decide) rfl rfl (Nat.le_of_ble_eq_true rfl) dX11_note_30 h (kI (fun r4 S4 h => j_if_ne (tgt := 44) dX11_note_33 (by decide) h (fun h => JX11_note_44 _ _ _ _ _ _ h) (fun h => j_iload_n 2 dX11_note_36 rfl (j_iload_n 3 dX11_note_37 rfl (j_ishr dX11_note_38 (j_iconst dX11_note_39 (j_iand dX11_note_40 (j_if_ne (tgt := 48) dX11_note_41 (by decide) h (fun h => j_iconst dX11_note_48 (JX11_note_49 _ _ _ _ _ _ _ h)) (fun h => JX11_note_44 _ _ _ _ _ _ h))))))))) (fun _ _ h => h.elim)))))) (fun _ _ h => h.elim)))))))) (fun _ _ h => h.elim)))) (fun _ _ h => h.elim)))))))
theorem MX11_note {d : Nat} {x0 : Nat} {x1 : Int} {x2 : Int} {x3 : Int} {S : MS} {Q : Out → MS → Prop} (h : VX11_note_0 d Q x0 x1 x2 x3 S) : Mw hX11_note yX11_note (d + 1) [vA x0, vI x1, vI x2, vI x3] S Q := Mw.ofJ (by decide) (Nat.le_of_ble_eq_true rfl) (JX11_note_0 _ _ _ _ S h)
theorem dX11_look_0 : decode cX11_look 0 = .ok (.aload_n 0, 1) := by decide +kernel
theorem dX11_look_1 : decode cX11_look 1 = .ok (.iconst 0, 1) := by decide +kernel
theorem dX11_look_2 : decode cX11_look 2 = .ok (.putfield 3, 3) := by decide +kernel
theorem dX11_look_5 : decode cX11_look 5 = .ok (.aload_n 0, 1) := by decide +kernel
theorem dX11_look_6 : decode cX11_look 6 = .ok (.aload_n 0, 1) := by decide +kernel
theorem dX11_look_7 : decode cX11_look 7 = .ok (.iload_n 1, 1) := by decide +kernel
theorem dX11_look_8 : decode cX11_look 8 = .ok (.invokevirtual 212, 3) := by decide +kernel
theorem dX11_look_11 : decode cX11_look 11 = .ok (.iconst 1, 1) := by decide +kernel
theorem dX11_look_12 : decode cX11_look 12 = .ok (.invokevirtual 190, 3) := by decide +kernel
theorem dX11_look_15 : decode cX11_look 15 = .ok (.ifCond .ne 25, 3) := by decide +kernel
theorem dX11_look_18 : decode cX11_look 18 = .ok (.aload_n 0, 1) := by decide +kernel
theorem dX11_look_19 : decode cX11_look 19 = .ok (.iload_n 2, 1) := by decide +kernel
theorem dX11_look_20 : decode cX11_look 20 = .ok (.iconst 0, 1) := by decide +kernel
theorem dX11_look_21 : decode cX11_look 21 = .ok (.iconst 2, 1) := by decide +kernel
theorem dX11_look_22 : decode cX11_look 22 = .ok (.invokestatic 87, 3) := by decide +kernel
theorem dX11_look_25 : decode cX11_look 25 = .ok (.ifCond .ne 7, 3) := by decide +kernel
theorem dX11_look_28 : decode cX11_look 28 = .ok (.iconst 1, 1) := by decide +kernel
theorem dX11_look_29 : decode cX11_look 29 = .ok (.goto 4, 3) := by decide +kernel
theorem dX11_look_32 : decode cX11_look 32 = .ok (.iconst 0, 1) := by decide +kernel
theorem dX11_look_33 : decode cX11_look 33 = .ok (.iconst 2, 1) := by decide +kernel
theorem dX11_look_34 : decode cX11_look 34 = .ok (.invokevirtual 190, 3) := by decide +kernel
theorem dX11_look_37 : decode cX11_look 37 = .ok (.ifCond .eq 7, 3) := by decide +kernel
theorem dX11_look_40 : decode cX11_look 40 = .ok (.iconst 0, 1) := by decide +kernel
theorem dX11_look_41 : decode cX11_look 41 = .ok (.goto 9, 3) := by decide +kernel
theorem dX11_look_44 : decode cX11_look 44 = .ok (.aload_n 0, 1) := by decide +kernel
theorem dX11_look_45 : decode cX11_look 45 = .ok (.iload_n 1, 1) := by decide +kernel
theorem dX11_look_46 : decode cX11_look 46 = .ok (.iload_n 2, 1) := by decide +kernel
theorem dX11_look_47 : decode cX11_look 47 = .ok (.invokevirtual 215, 3) := by decide +kernel
theorem dX11_look_50 : decode cX11_look 50 = .ok (.ireturn, 1) := by decide +kernel
def VX11_look_40 (d : Nat) (Q : Out → MS → Prop) (S : MS) : Prop :=
  Q (.inl (some (vI 0))) S
theorem JX11_look_40 {d : Nat} {S0 : MS} {Q : Out → MS → Prop} (S : MS) (h : VX11_look_40 d Q S) : Jw FinM RX11 cX11_look 3 (some .int) [] yX11_look (d + 1) S0 S 40 [] [] Q :=
  j_iconst dX11_look_40 (j_goto (tgt := 50) dX11_look_41 (by decide) (j_iret rfl dX11_look_50 h))
def VX11_look_33 (d : Nat) (Q : Out → MS → Prop) (x0 : Nat) (x1 : Int) (x2 : Int) (t0 : Int) (t1 : Nat) (S : MS) : Prop :=
  S.K t1 = 11 ∧ Mw hX11_throwsIf yX11_throwsIf d [vA t1, vI t0, vI 2] S (oI (fun r1 S1 => R32 r1 ∧ ((r1 = 0) → S1.K x0 = 11 ∧ Mw hX11_ofNote yX11_ofNote d [vA x0, vI x1, vI x2] S1 (oI (fun r2 S2 => Q (.inl (some (vI r2))) S2))) ∧ (¬ (r1 = 0) → VX11_look_40 d Q S1)))
theorem JX11_look_33 {d : Nat} {S0 : MS} {Q : Out → MS → Prop} (x0 : Nat) (x1 : Int) (x2 : Int) (t0 : Int) (t1 : Nat) (S : MS) (h : VX11_look_33 d Q x0 x1 x2 t0 t1 S) : Jw FinM RX11 cX11_look 3 (some .int) [] yX11_look (d + 1) S0 S 33 [(0, vA x0), (1, vI x1), (2, vI x2)] [vI t0, vA t1] Q :=
  j_iconst dX11_look_33 (j_callV (rest := []) 11 [vI t0, vI 2] k_RX11_190 ⟨w_7_191, p_4_7⟩ ⟨_, _, rfl⟩ (by decide) rfl rfl (Nat.le_of_ble_eq_true rfl) dX11_look_34 h (kI (fun r1 S1 h => j_if_eq (tgt := 44) dX11_look_37 (by decide) h (fun h => j_aload_n 0 dX11_look_44 rfl (j_iload_n 1 dX11_look_45 rfl (j_iload_n 2 dX11_look_46 rfl (j_callV (rest := []) 11 [vI x1, vI x2] k_RX11_215 ⟨w_8_26, p_5_2⟩ ⟨_, _, rfl⟩ (by decide) rfl rfl (Nat.le_of_ble_eq_true rfl) dX11_look_47 h (kI (fun r2 S2 h => j_iret rfl dX11_look_50 h)) (fun _ _ h => h.elim))))) (fun h => j_sub [] rfl (JX11_look_40 _ h)))) (fun _ _ h => h.elim))
def VX11_look_0 (d : Nat) (Q : Out → MS → Prop) (x0 : Nat) (x1 : Int) (x2 : Int) (S : MS) : Prop :=
  S.K x0 = 11 ∧ ((S.setI x0 0 0).K x0 = 11 ∧ Mw hX11_noNote yX11_noNote d [vA x0, vI x1] (S.setI x0 0 0) (oI (fun r1 S1 => S1.K x0 = 11 ∧ Mw hX11_throwsIf yX11_throwsIf d [vA x0, vI r1, vI 1] S1 (oI (fun r2 S2 => R32 r2 ∧ (¬ (r2 = 0) → VX11_look_40 d Q S2) ∧ ((r2 = 0) → Mw hX11_in yX11_in d [vI x2, vI 0, vI 2] S2 (oI (fun r3 S3 => R32 r3 ∧ (¬ (r3 = 0) → VX11_look_33 d Q x0 x1 x2 0 x0 S3) ∧ ((r3 = 0) → VX11_look_33 d Q x0 x1 x2 1 x0 S3)))))))))
theorem JX11_look_0 {d : Nat} {S0 : MS} {Q : Out → MS → Prop} (x0 : Nat) (x1 : Int) (x2 : Int) (S : MS) (h : VX11_look_0 d Q x0 x1 x2 S) : Jw FinM RX11 cX11_look 3 (some .int) [] yX11_look (d + 1) S0 S 0 [(0, vA x0), (1, vI x1), (2, vI x2)] [] Q :=
  j_aload_n 0 dX11_look_0 rfl (j_iconst dX11_look_1 (j_putI 11 0 f_RX11_3 dX11_look_2 h (fun h => j_aload_n 0 dX11_look_5 rfl (j_aload_n 0 dX11_look_6 rfl (j_iload_n 1 dX11_look_7 rfl (j_callV (rest := [vA x0]) 11 [vI x1] k_RX11_212 ⟨w_8_22, p_5_1⟩ ⟨_, _, rfl⟩ (by decide) rfl rfl (Nat.le_of_ble_eq_true rfl) dX11_look_8 h (kI (fun r1 S1 h => j_iconst dX11_look_11 (j_callV (rest := []) 11 [vI r1, vI 1] k_RX11_190 ⟨w_7_191, p_4_7⟩ ⟨_, _, rfl⟩ (by decide) rfl rfl (Nat.le_of_ble_eq_true rfl) dX11_look_12 h (kI (fun r2 S2 h => j_if_ne (tgt := 40) dX11_look_15 (by decide) h (fun h => j_sub [] rfl (JX11_look_40 _ h)) (fun h => j_aload_n 0 dX11_look_18 rfl (j_iload_n 2 dX11_look_19 rfl (j_iconst dX11_look_20 (j_iconst dX11_look_21 (j_callS (rest := [vA x0]) [vI x2, vI 0, vI 2] k_RX11_87 w_7_198 rfl rfl (Nat.le_of_ble_eq_true rfl) dX11_look_22 h (kI (fun r3 S3 h => j_if_ne (tgt := 32) dX11_look_25 (by decide) h (fun h => j_iconst dX11_look_32 (JX11_look_33 _ _ _ _ _ _ h)) (fun h => j_iconst dX11_look_28 (j_goto (tgt := 33) dX11_look_29 (by decide) (JX11_look_33 _ _ _ _ _ _ h))))) (fun _ _ h => h.elim)))))))) (fun _ _ h => h.elim)))) (fun _ _ h => h.elim)))))))
theorem MX11_look {d : Nat} {x0 : Nat} {x1 : Int} {x2 : Int} {S : MS} {Q : Out → MS → Prop} (h : VX11_look_0 d Q x0 x1 x2 S) : Mw hX11_look yX11_look (d + 1) [vA x0, vI x1, vI x2] S Q := Mw.ofJ (by decide) (Nat.le_of_ble_eq_true rfl) (JX11_look_0 _ _ _ S h)
theorem dX11_drops_0 : decode cX11_drops 0 = .ok (.bipush 23, 2) := by decide +kernel
theorem dX11_drops_2 : decode cX11_drops 2 = .ok (.iconst 3, 1) := by decide +kernel
theorem dX11_drops_3 : decode cX11_drops 3 = .ok (.iload_n 1, 1) := by decide +kernel
theorem dX11_drops_4 : decode cX11_drops 4 = .ok (.imul, 1) := by decide +kernel
theorem dX11_drops_5 : decode cX11_drops 5 = .ok (.iadd, 1) := by decide +kernel
theorem dX11_drops_6 : decode cX11_drops 6 = .ok (.istore_n 2, 1) := by decide +kernel
theorem dX11_drops_7 : decode cX11_drops 7 = .ok (.iload_n 2, 1) := by decide +kernel
theorem dX11_drops_8 : decode cX11_drops 8 = .ok (.iconst 3, 1) := by decide +kernel
theorem dX11_drops_9 : decode cX11_drops 9 = .ok (.iadd, 1) := by decide +kernel
theorem dX11_drops_10 : decode cX11_drops 10 = .ok (.bipush 71, 2) := by decide +kernel
theorem dX11_drops_12 : decode cX11_drops 12 = .ok (.if_icmp .ge 23, 3) := by decide +kernel
theorem dX11_drops_15 : decode cX11_drops 15 = .ok (.aload_n 0, 1) := by decide +kernel
theorem dX11_drops_16 : decode cX11_drops 16 = .ok (.getfield 13, 3) := by decide +kernel
theorem dX11_drops_19 : decode cX11_drops 19 = .ok (.iload_n 2, 1) := by decide +kernel
theorem dX11_drops_20 : decode cX11_drops 20 = .ok (.aload_n 0, 1) := by decide +kernel
theorem dX11_drops_21 : decode cX11_drops 21 = .ok (.getfield 13, 3) := by decide +kernel
theorem dX11_drops_24 : decode cX11_drops 24 = .ok (.iload_n 2, 1) := by decide +kernel
theorem dX11_drops_25 : decode cX11_drops 25 = .ok (.iconst 3, 1) := by decide +kernel
theorem dX11_drops_26 : decode cX11_drops 26 = .ok (.iadd, 1) := by decide +kernel
theorem dX11_drops_27 : decode cX11_drops 27 = .ok (.iaload, 1) := by decide +kernel
theorem dX11_drops_28 : decode cX11_drops 28 = .ok (.iastore, 1) := by decide +kernel
theorem dX11_drops_29 : decode cX11_drops 29 = .ok (.iinc 2 1, 3) := by decide +kernel
theorem dX11_drops_32 : decode cX11_drops 32 = .ok (.goto (-25), 3) := by decide +kernel
theorem dX11_drops_35 : decode cX11_drops 35 = .ok (.aload_n 0, 1) := by decide +kernel
theorem dX11_drops_36 : decode cX11_drops 36 = .ok (.getfield 13, 3) := by decide +kernel
theorem dX11_drops_39 : decode cX11_drops 39 = .ok (.iconst 2, 1) := by decide +kernel
theorem dX11_drops_40 : decode cX11_drops 40 = .ok (.dup2, 1) := by decide +kernel
theorem dX11_drops_41 : decode cX11_drops 41 = .ok (.iaload, 1) := by decide +kernel
theorem dX11_drops_42 : decode cX11_drops 42 = .ok (.iconst 1, 1) := by decide +kernel
theorem dX11_drops_43 : decode cX11_drops 43 = .ok (.isub, 1) := by decide +kernel
theorem dX11_drops_44 : decode cX11_drops 44 = .ok (.iastore, 1) := by decide +kernel
theorem dX11_drops_45 : decode cX11_drops 45 = .ok (.return_, 1) := by decide +kernel
def VX11_drops_7 (d : Nat) (Q : Out → MS → Prop) : Nat → Nat → Int → MS → Prop
  | 0, _, _, _ => False
  | n + 1, x0, x2, S => (R32 (x2 + 3) ∧ R32 (71 : Int)) ∧ (((71 : Int) ≤ (x2 + 3)) → S.K x0 = 11 ∧ ∃ b1, S.R x0 1 = some b1 ∧ ((S.K b1 = 13 ∧ 0 ≤ (2 : Int) ∧ (2 : Int) < S.N b1) ∧ ((S.K b1 = 13 ∧ 0 ≤ (2 : Int) ∧ (2 : Int) < S.N b1) ∧ (Q (.inl none) (S.setI b1 ((2 : Int)).toNat ((S.I b1 ((2 : Int)).toNat) - 1)))))) ∧ (¬ ((71 : Int) ≤ (x2 + 3)) → S.K x0 = 11 ∧ ∃ b2, S.R x0 1 = some b2 ∧ (S.K x0 = 11 ∧ ∃ b3, S.R x0 1 = some b3 ∧ ((S.K b3 = 13 ∧ 0 ≤ (x2 + 3) ∧ (x2 + 3) < S.N b3) ∧ ((S.K b2 = 13 ∧ 0 ≤ x2 ∧ x2 < S.N b2) ∧ ((VX11_drops_7 d Q n) x0 (x2 + 1) (S.setI b2 (x2).toNat (S.I b3 ((x2 + 3)).toNat)))))))
theorem JX11_drops_7 {d : Nat} {S0 : MS} {Q : Out → MS → Prop} : ∀ (n : Nat) (x0 : Nat) (x2 : Int) (S : MS), VX11_drops_7 d Q n x0 x2 S → Jw FinM RX11 cX11_drops 3 none [] yX11_drops (d + 1) S0 S 7 [(0, vA x0), (2, vI x2)] [] Q := by
  intro n
  induction n with
  | zero => intro x0 x2 S h; exact h.elim
  | succ n ih =>
    intro x0 x2 S h
    exact j_iload_n 1 dX11_drops_7 rfl (j_iconst dX11_drops_8 (j_iadd dX11_drops_9 (j_bipush dX11_drops_10 rfl (j_icmp_ge (tgt := 35) dX11_drops_12 (by decide) h (fun h => j_aload_n 0 dX11_drops_35 rfl (j_getR 11 1 f_RX11_13 dX11_drops_36 h (fun b1 h => j_iconst dX11_drops_39 (j_dup2 rfl rfl dX11_drops_40 (j_iald dX11_drops_41 h (fun h => j_iconst dX11_drops_42 (j_isub dX11_drops_43 (j_iast dX11_drops_44 h (fun h => j_vret rfl dX11_drops_45 h))))))))) (fun h => j_aload_n 0 dX11_drops_15 rfl (j_getR 11 1 f_RX11_13 dX11_drops_16 h (fun b2 h => j_iload_n 1 dX11_drops_19 rfl (j_aload_n 0 dX11_drops_20 rfl (j_getR 11 1 f_RX11_13 dX11_drops_21 h (fun b3 h => j_iload_n 1 dX11_drops_24 rfl (j_iconst dX11_drops_25 (j_iadd dX11_drops_26 (j_iald dX11_drops_27 h (fun h => j_iast dX11_drops_28 h (fun h => j_iinc 1 (lv2 := [(2, vI (x2 + 1)), (0, vA x0)]) dX11_drops_29 rfl (by decide) rfl (j_goto (tgt := 7) dX11_drops_32 (by decide) (j_sub [1, 0] rfl (ih _ _ _ h))))))))))))))))))
def VX11_drops_0 (d : Nat) (Q : Out → MS → Prop) (x0 : Nat) (x1 : Int) (S : MS) : Prop :=
  ∃ m, VX11_drops_7 d Q m x0 (23 + (3 * x1)) S
theorem JX11_drops_0 {d : Nat} {S0 : MS} {Q : Out → MS → Prop} (x0 : Nat) (x1 : Int) (S : MS) (h : VX11_drops_0 d Q x0 x1 S) : Jw FinM RX11 cX11_drops 3 none [] yX11_drops (d + 1) S0 S 0 [(0, vA x0), (1, vI x1)] [] Q :=
  j_bipush dX11_drops_0 rfl (j_iconst dX11_drops_2 (j_iload_n 1 dX11_drops_3 rfl (j_imul dX11_drops_4 (j_iadd dX11_drops_5 (j_istore_n (lv2 := [(2, vI (23 + (3 * x1))), (0, vA x0), (1, vI x1)]) dX11_drops_6 (by decide) rfl (Exists.elim h (fun m h => j_sub [1, 0] rfl (JX11_drops_7 m _ _ _ h))))))))
theorem MX11_drops {d : Nat} {x0 : Nat} {x1 : Int} {S : MS} {Q : Out → MS → Prop} (h : VX11_drops_0 d Q x0 x1 S) : Mw hX11_drops yX11_drops (d + 1) [vA x0, vI x1] S Q := Mw.ofJ (by decide) (Nat.le_of_ble_eq_true rfl) (JX11_drops_0 _ _ S h)
theorem dX11_drop_0 : decode cX11_drop 0 = .ok (.aload_n 0, 1) := by decide +kernel
theorem dX11_drop_1 : decode cX11_drop 1 = .ok (.iconst 0, 1) := by decide +kernel
theorem dX11_drop_2 : decode cX11_drop 2 = .ok (.putfield 3, 3) := by decide +kernel
theorem dX11_drop_5 : decode cX11_drop 5 = .ok (.aload_n 0, 1) := by decide +kernel
theorem dX11_drop_6 : decode cX11_drop 6 = .ok (.aload_n 0, 1) := by decide +kernel
theorem dX11_drop_7 : decode cX11_drop 7 = .ok (.iload_n 1, 1) := by decide +kernel
theorem dX11_drop_8 : decode cX11_drop 8 = .ok (.invokevirtual 212, 3) := by decide +kernel
theorem dX11_drop_11 : decode cX11_drop 11 = .ok (.iconst 1, 1) := by decide +kernel
theorem dX11_drop_12 : decode cX11_drop 12 = .ok (.invokevirtual 190, 3) := by decide +kernel
theorem dX11_drop_15 : decode cX11_drop 15 = .ok (.ifCond .eq 5, 3) := by decide +kernel
theorem dX11_drop_18 : decode cX11_drop 18 = .ok (.iconst 0, 1) := by decide +kernel
theorem dX11_drop_19 : decode cX11_drop 19 = .ok (.ireturn, 1) := by decide +kernel
theorem dX11_drop_20 : decode cX11_drop 20 = .ok (.aload_n 0, 1) := by decide +kernel
theorem dX11_drop_21 : decode cX11_drop 21 = .ok (.iload_n 1, 1) := by decide +kernel
theorem dX11_drop_22 : decode cX11_drop 22 = .ok (.invokevirtual 218, 3) := by decide +kernel
theorem dX11_drop_25 : decode cX11_drop 25 = .ok (.aload_n 0, 1) := by decide +kernel
theorem dX11_drop_26 : decode cX11_drop 26 = .ok (.invokevirtual 91, 3) := by decide +kernel
theorem dX11_drop_29 : decode cX11_drop 29 = .ok (.ireturn, 1) := by decide +kernel
def VX11_drop_0 (d : Nat) (Q : Out → MS → Prop) (x0 : Nat) (x1 : Int) (S : MS) : Prop :=
  S.K x0 = 11 ∧ ((S.setI x0 0 0).K x0 = 11 ∧ Mw hX11_noNote yX11_noNote d [vA x0, vI x1] (S.setI x0 0 0) (oI (fun r1 S1 => S1.K x0 = 11 ∧ Mw hX11_throwsIf yX11_throwsIf d [vA x0, vI r1, vI 1] S1 (oI (fun r2 S2 => R32 r2 ∧ ((r2 = 0) → S2.K x0 = 11 ∧ Mw hX11_drops yX11_drops d [vA x0, vI x1] S2 (oV (fun S3 => S3.K x0 = 11 ∧ Mw hX11_notes yX11_notes d [vA x0] S3 (oI (fun r4 S4 => Q (.inl (some (vI r4))) S4))))) ∧ (¬ (r2 = 0) → Q (.inl (some (vI 0))) S2))))))
theorem JX11_drop_0 {d : Nat} {S0 : MS} {Q : Out → MS → Prop} (x0 : Nat) (x1 : Int) (S : MS) (h : VX11_drop_0 d Q x0 x1 S) : Jw FinM RX11 cX11_drop 2 (some .int) [] yX11_drop (d + 1) S0 S 0 [(0, vA x0), (1, vI x1)] [] Q :=
  j_aload_n 0 dX11_drop_0 rfl (j_iconst dX11_drop_1 (j_putI 11 0 f_RX11_3 dX11_drop_2 h (fun h => j_aload_n 0 dX11_drop_5 rfl (j_aload_n 0 dX11_drop_6 rfl (j_iload_n 1 dX11_drop_7 rfl (j_callV (rest := [vA x0]) 11 [vI x1] k_RX11_212 ⟨w_8_22, p_5_1⟩ ⟨_, _, rfl⟩ (by decide) rfl rfl (Nat.le_of_ble_eq_true rfl) dX11_drop_8 h (kI (fun r1 S1 h => j_iconst dX11_drop_11 (j_callV (rest := []) 11 [vI r1, vI 1] k_RX11_190 ⟨w_7_191, p_4_7⟩ ⟨_, _, rfl⟩ (by decide) rfl rfl (Nat.le_of_ble_eq_true rfl) dX11_drop_12 h (kI (fun r2 S2 h => j_if_eq (tgt := 20) dX11_drop_15 (by decide) h (fun h => j_aload_n 0 dX11_drop_20 rfl (j_iload_n 1 dX11_drop_21 rfl (j_callV (rest := []) 11 [vI x1] k_RX11_218 ⟨w_8_34, p_5_3⟩ ⟨_, _, rfl⟩ (by decide) rfl rfl (Nat.le_of_ble_eq_true rfl) dX11_drop_22 h (kV (fun S3 h => j_aload_n 0 dX11_drop_25 rfl (j_callV (rest := []) 11 [] k_RX11_91 ⟨w_7_202, p_4_8⟩ ⟨_, _, rfl⟩ (by decide) rfl rfl (Nat.le_of_ble_eq_true rfl) dX11_drop_26 h (kI (fun r4 S4 h => j_iret rfl dX11_drop_29 h)) (fun _ _ h => h.elim)))) (fun _ _ h => h.elim)))) (fun h => j_iconst dX11_drop_18 (j_iret rfl dX11_drop_19 h)))) (fun _ _ h => h.elim)))) (fun _ _ h => h.elim)))))))
theorem MX11_drop {d : Nat} {x0 : Nat} {x1 : Int} {S : MS} {Q : Out → MS → Prop} (h : VX11_drop_0 d Q x0 x1 S) : Mw hX11_drop yX11_drop (d + 1) [vA x0, vI x1] S Q := Mw.ofJ (by decide) (Nat.le_of_ble_eq_true rfl) (JX11_drop_0 _ _ S h)
theorem dX11_at_0 : decode cX11_at 0 = .ok (.aload_n 0, 1) := by decide +kernel
theorem dX11_at_1 : decode cX11_at 1 = .ok (.getfield 34, 3) := by decide +kernel
theorem dX11_at_4 : decode cX11_at 4 = .ok (.bipush 7, 2) := by decide +kernel
theorem dX11_at_6 : decode cX11_at 6 = .ok (.iload_n 1, 1) := by decide +kernel
theorem dX11_at_7 : decode cX11_at 7 = .ok (.imul, 1) := by decide +kernel
theorem dX11_at_8 : decode cX11_at 8 = .ok (.iload_n 2, 1) := by decide +kernel
theorem dX11_at_9 : decode cX11_at 9 = .ok (.iadd, 1) := by decide +kernel
theorem dX11_at_10 : decode cX11_at 10 = .ok (.baload, 1) := by decide +kernel
theorem dX11_at_11 : decode cX11_at 11 = .ok (.ireturn, 1) := by decide +kernel
def VX11_at_0 (d : Nat) (Q : Out → MS → Prop) (x0 : Nat) (x1 : Int) (x2 : Int) (S : MS) : Prop :=
  S.K x0 = 11 ∧ ∃ b1, S.R x0 12 = some b1 ∧ ((S.K b1 = 12 ∧ 0 ≤ ((7 * x1) + x2) ∧ ((7 * x1) + x2) < S.N b1) ∧ (Q (.inl (some (vI (S.I b1 (((7 * x1) + x2)).toNat)))) S))
theorem JX11_at_0 {d : Nat} {S0 : MS} {Q : Out → MS → Prop} (x0 : Nat) (x1 : Int) (x2 : Int) (S : MS) (h : VX11_at_0 d Q x0 x1 x2 S) : Jw FinM RX11 cX11_at 3 (some .int) [] yX11_at (d + 1) S0 S 0 [(0, vA x0), (1, vI x1), (2, vI x2)] [] Q :=
  j_aload_n 0 dX11_at_0 rfl (j_getR 11 12 f_RX11_34 dX11_at_1 h (fun b1 h => j_bipush dX11_at_4 rfl (j_iload_n 1 dX11_at_6 rfl (j_imul dX11_at_7 (j_iload_n 2 dX11_at_8 rfl (j_iadd dX11_at_9 (j_bald dX11_at_10 h (fun h => j_iret rfl dX11_at_11 h))))))))
theorem MX11_at {d : Nat} {x0 : Nat} {x1 : Int} {x2 : Int} {S : MS} {Q : Out → MS → Prop} (h : VX11_at_0 d Q x0 x1 x2 S) : Mw hX11_at yX11_at (d + 1) [vA x0, vI x1, vI x2] S Q := Mw.ofJ (by decide) (Nat.le_of_ble_eq_true rfl) (JX11_at_0 _ _ _ S h)
theorem dX11_fills_0 : decode cX11_fills 0 = .ok (.aload_n 0, 1) := by decide +kernel
theorem dX11_fills_1 : decode cX11_fills 1 = .ok (.getfield 222, 3) := by decide +kernel
theorem dX11_fills_4 : decode cX11_fills 4 = .ok (.aload_n 0, 1) := by decide +kernel
theorem dX11_fills_5 : decode cX11_fills 5 = .ok (.invokevirtual 83, 3) := by decide +kernel
theorem dX11_fills_8 : decode cX11_fills 8 = .ok (.if_icmp .ne 4, 3) := by decide +kernel
theorem dX11_fills_11 : decode cX11_fills 11 = .ok (.return_, 1) := by decide +kernel
theorem dX11_fills_12 : decode cX11_fills 12 = .ok (.aload_n 0, 1) := by decide +kernel
theorem dX11_fills_13 : decode cX11_fills 13 = .ok (.aload_n 0, 1) := by decide +kernel
theorem dX11_fills_14 : decode cX11_fills 14 = .ok (.invokevirtual 83, 3) := by decide +kernel
theorem dX11_fills_17 : decode cX11_fills 17 = .ok (.putfield 222, 3) := by decide +kernel
theorem dX11_fills_20 : decode cX11_fills 20 = .ok (.aload_n 0, 1) := by decide +kernel
theorem dX11_fills_21 : decode cX11_fills 21 = .ok (.getfield 222, 3) := by decide +kernel
theorem dX11_fills_24 : decode cX11_fills 24 = .ok (.istore_n 1, 1) := by decide +kernel
theorem dX11_fills_25 : decode cX11_fills 25 = .ok (.iconst 0, 1) := by decide +kernel
theorem dX11_fills_26 : decode cX11_fills 26 = .ok (.istore_n 2, 1) := by decide +kernel
theorem dX11_fills_27 : decode cX11_fills 27 = .ok (.iload_n 2, 1) := by decide +kernel
theorem dX11_fills_28 : decode cX11_fills 28 = .ok (.iload_n 1, 1) := by decide +kernel
theorem dX11_fills_29 : decode cX11_fills 29 = .ok (.if_icmp .ge 17, 3) := by decide +kernel
theorem dX11_fills_32 : decode cX11_fills 32 = .ok (.aload_n 0, 1) := by decide +kernel
theorem dX11_fills_33 : decode cX11_fills 33 = .ok (.getfield 34, 3) := by decide +kernel
theorem dX11_fills_36 : decode cX11_fills 36 = .ok (.iload_n 2, 1) := by decide +kernel
theorem dX11_fills_37 : decode cX11_fills 37 = .ok (.iload_n 2, 1) := by decide +kernel
theorem dX11_fills_38 : decode cX11_fills 38 = .ok (.i2b, 1) := by decide +kernel
theorem dX11_fills_39 : decode cX11_fills 39 = .ok (.bastore, 1) := by decide +kernel
theorem dX11_fills_40 : decode cX11_fills 40 = .ok (.iinc 2 1, 3) := by decide +kernel
theorem dX11_fills_43 : decode cX11_fills 43 = .ok (.goto (-16), 3) := by decide +kernel
theorem dX11_fills_46 : decode cX11_fills 46 = .ok (.aload_n 0, 1) := by decide +kernel
theorem dX11_fills_47 : decode cX11_fills 47 = .ok (.iconst 1, 1) := by decide +kernel
theorem dX11_fills_48 : decode cX11_fills 48 = .ok (.putfield 225, 3) := by decide +kernel
theorem dX11_fills_51 : decode cX11_fills 51 = .ok (.aload_n 0, 1) := by decide +kernel
theorem dX11_fills_52 : decode cX11_fills 52 = .ok (.bipush 7, 2) := by decide +kernel
theorem dX11_fills_54 : decode cX11_fills 54 = .ok (.aload_n 0, 1) := by decide +kernel
theorem dX11_fills_55 : decode cX11_fills 55 = .ok (.getfield 225, 3) := by decide +kernel
theorem dX11_fills_58 : decode cX11_fills 58 = .ok (.iconst 1, 1) := by decide +kernel
theorem dX11_fills_59 : decode cX11_fills 59 = .ok (.isub, 1) := by decide +kernel
theorem dX11_fills_60 : decode cX11_fills 60 = .ok (.imul, 1) := by decide +kernel
theorem dX11_fills_61 : decode cX11_fills 61 = .ok (.bipush 7, 2) := by decide +kernel
theorem dX11_fills_63 : decode cX11_fills 63 = .ok (.aload_n 0, 1) := by decide +kernel
theorem dX11_fills_64 : decode cX11_fills 64 = .ok (.getfield 225, 3) := by decide +kernel
theorem dX11_fills_67 : decode cX11_fills 67 = .ok (.imul, 1) := by decide +kernel
theorem dX11_fills_68 : decode cX11_fills 68 = .ok (.iload_n 1, 1) := by decide +kernel
theorem dX11_fills_69 : decode cX11_fills 69 = .ok (.invokevirtual 228, 3) := by decide +kernel
theorem dX11_fills_72 : decode cX11_fills 72 = .ok (.ifCond .eq 16, 3) := by decide +kernel
theorem dX11_fills_75 : decode cX11_fills 75 = .ok (.aload_n 0, 1) := by decide +kernel
theorem dX11_fills_76 : decode cX11_fills 76 = .ok (.dup, 1) := by decide +kernel
theorem dX11_fills_77 : decode cX11_fills 77 = .ok (.getfield 225, 3) := by decide +kernel
theorem dX11_fills_80 : decode cX11_fills 80 = .ok (.iconst 1, 1) := by decide +kernel
theorem dX11_fills_81 : decode cX11_fills 81 = .ok (.iadd, 1) := by decide +kernel
theorem dX11_fills_82 : decode cX11_fills 82 = .ok (.putfield 225, 3) := by decide +kernel
theorem dX11_fills_85 : decode cX11_fills 85 = .ok (.goto (-34), 3) := by decide +kernel
theorem dX11_fills_88 : decode cX11_fills 88 = .ok (.return_, 1) := by decide +kernel
def VX11_fills_51 (d : Nat) (Q : Out → MS → Prop) : Nat → Nat → Int → MS → Prop
  | 0, _, _, _ => False
  | n + 1, x0, x1, S => S.K x0 = 11 ∧ (S.K x0 = 11 ∧ (S.K x0 = 11 ∧ Mw hX11_follows yX11_follows d [vA x0, vI (7 * ((S.I x0 13) - 1)), vI (7 * (S.I x0 13)), vI x1] S (oI (fun r1 S1 => R32 r1 ∧ ((r1 = 0) → Q (.inl none) S1) ∧ (¬ (r1 = 0) → S1.K x0 = 11 ∧ (S1.K x0 = 11 ∧ ((VX11_fills_51 d Q n) x0 x1 (S1.setI x0 13 ((S1.I x0 13) + 1)))))))))
theorem JX11_fills_51 {d : Nat} {S0 : MS} {Q : Out → MS → Prop} : ∀ (n : Nat) (x0 : Nat) (x1 : Int) (S : MS), VX11_fills_51 d Q n x0 x1 S → Jw FinM RX11 cX11_fills 3 none [] yX11_fills (d + 1) S0 S 51 [(0, vA x0), (1, vI x1)] [] Q := by
  intro n
  induction n with
  | zero => intro x0 x1 S h; exact h.elim
  | succ n ih =>
    intro x0 x1 S h
    exact j_aload_n 0 dX11_fills_51 rfl (j_bipush dX11_fills_52 rfl (j_aload_n 0 dX11_fills_54 rfl (j_getI 11 13 f_RX11_225 dX11_fills_55 h (fun h => j_iconst dX11_fills_58 (j_isub dX11_fills_59 (j_imul dX11_fills_60 (j_bipush dX11_fills_61 rfl (j_aload_n 0 dX11_fills_63 rfl (j_getI 11 13 f_RX11_225 dX11_fills_64 h (fun h => j_imul dX11_fills_67 (j_iload_n 1 dX11_fills_68 rfl (j_callV (rest := []) 11 [vI (7 * ((S.I x0 13) - 1)), vI (7 * (S.I x0 13)), vI x1] k_RX11_228 ⟨w_8_50, p_5_6⟩ ⟨_, _, rfl⟩ (by decide) rfl rfl (Nat.le_of_ble_eq_true rfl) dX11_fills_69 h (kI (fun r1 S1 h => j_if_eq (tgt := 88) dX11_fills_72 (by decide) h (fun h => j_vret rfl dX11_fills_88 h) (fun h => j_aload_n 0 dX11_fills_75 rfl (j_dup rfl dX11_fills_76 (j_getI 11 13 f_RX11_225 dX11_fills_77 h (fun h => j_iconst dX11_fills_80 (j_iadd dX11_fills_81 (j_putI 11 13 f_RX11_225 dX11_fills_82 h (fun h => j_goto (tgt := 51) dX11_fills_85 (by decide) (ih _ _ _ h)))))))))) (fun _ _ h => h.elim)))))))))))))
def VX11_fills_27 (d : Nat) (Q : Out → MS → Prop) : Nat → Nat → Int → Int → MS → Prop
  | 0, _, _, _, _ => False
  | n + 1, x0, x1, x2, S => (R32 x2 ∧ R32 x1) ∧ ((x1 ≤ x2) → S.K x0 = 11 ∧ (∃ m, VX11_fills_51 d Q m x0 x1 (S.setI x0 13 1))) ∧ (¬ (x1 ≤ x2) → S.K x0 = 11 ∧ ∃ b1, S.R x0 12 = some b1 ∧ ((S.K b1 = 12 ∧ 0 ≤ x2 ∧ x2 < S.N b1) ∧ ((VX11_fills_27 d Q n) x0 x1 (x2 + 1) (S.setI b1 (x2).toNat (i2B (i2B x2))))))
theorem JX11_fills_27 {d : Nat} {S0 : MS} {Q : Out → MS → Prop} : ∀ (n : Nat) (x0 : Nat) (x1 : Int) (x2 : Int) (S : MS), VX11_fills_27 d Q n x0 x1 x2 S → Jw FinM RX11 cX11_fills 3 none [] yX11_fills (d + 1) S0 S 27 [(0, vA x0), (1, vI x1), (2, vI x2)] [] Q := by
  intro n
  induction n with
  | zero => intro x0 x1 x2 S h; exact h.elim
  | succ n ih =>
    intro x0 x1 x2 S h
    exact j_iload_n 2 dX11_fills_27 rfl (j_iload_n 1 dX11_fills_28 rfl (j_icmp_ge (tgt := 46) dX11_fills_29 (by decide) h (fun h => j_aload_n 0 dX11_fills_46 rfl (j_iconst dX11_fills_47 (j_putI 11 13 f_RX11_225 dX11_fills_48 h (fun h => Exists.elim h (fun m h => j_sub [0, 1] rfl (JX11_fills_51 m _ _ _ h)))))) (fun h => j_aload_n 0 dX11_fills_32 rfl (j_getR 11 12 f_RX11_34 dX11_fills_33 h (fun b1 h => j_iload_n 2 dX11_fills_36 rfl (j_iload_n 2 dX11_fills_37 rfl (j_i2b dX11_fills_38 (j_bast dX11_fills_39 h (fun h => j_iinc 2 (lv2 := [(2, vI (x2 + 1)), (0, vA x0), (1, vI x1)]) dX11_fills_40 rfl (by decide) rfl (j_goto (tgt := 27) dX11_fills_43 (by decide) (j_sub [1, 2, 0] rfl (ih _ _ _ _ h))))))))))))
def VX11_fills_0 (d : Nat) (Q : Out → MS → Prop) (x0 : Nat) (S : MS) : Prop :=
  S.K x0 = 11 ∧ (S.K x0 = 11 ∧ Mw hX11_things yX11_things d [vA x0] S (oI (fun r1 S1 => (R32 (S.I x0 14) ∧ R32 r1) ∧ (¬ ((S.I x0 14) = r1) → S1.K x0 = 11 ∧ Mw hX11_things yX11_things d [vA x0] S1 (oI (fun r2 S2 => S2.K x0 = 11 ∧ ((S2.setI x0 14 r2).K x0 = 11 ∧ (∃ m, VX11_fills_27 d Q m x0 ((S2.setI x0 14 r2).I x0 14) 0 (S2.setI x0 14 r2)))))) ∧ (((S.I x0 14) = r1) → Q (.inl none) S1))))
theorem JX11_fills_0 {d : Nat} {S0 : MS} {Q : Out → MS → Prop} (x0 : Nat) (S : MS) (h : VX11_fills_0 d Q x0 S) : Jw FinM RX11 cX11_fills 3 none [] yX11_fills (d + 1) S0 S 0 [(0, vA x0)] [] Q :=
  j_aload_n 0 dX11_fills_0 rfl (j_getI 11 14 f_RX11_222 dX11_fills_1 h (fun h => j_aload_n 0 dX11_fills_4 rfl (j_callV (rest := [vI (S.I x0 14)]) 11 [] k_RX11_83 ⟨w_7_218, p_4_10⟩ ⟨_, _, rfl⟩ (by decide) rfl rfl (Nat.le_of_ble_eq_true rfl) dX11_fills_5 h (kI (fun r1 S1 h => j_icmp_ne (tgt := 12) dX11_fills_8 (by decide) h (fun h => j_aload_n 0 dX11_fills_12 rfl (j_aload_n 0 dX11_fills_13 rfl (j_callV (rest := [vA x0]) 11 [] k_RX11_83 ⟨w_7_218, p_4_10⟩ ⟨_, _, rfl⟩ (by decide) rfl rfl (Nat.le_of_ble_eq_true rfl) dX11_fills_14 h (kI (fun r2 S2 h => j_putI 11 14 f_RX11_222 dX11_fills_17 h (fun h => j_aload_n 0 dX11_fills_20 rfl (j_getI 11 14 f_RX11_222 dX11_fills_21 h (fun h => j_istore_n (lv2 := [(1, vI ((S2.setI x0 14 r2).I x0 14)), (0, vA x0)]) dX11_fills_24 (by decide) rfl (j_iconst dX11_fills_25 (j_istore_n (lv2 := [(2, vI 0), (1, vI ((S2.setI x0 14 r2).I x0 14)), (0, vA x0)]) dX11_fills_26 (by decide) rfl (Exists.elim h (fun m h => j_sub [2, 1, 0] rfl (JX11_fills_27 m _ _ _ _ h)))))))))) (fun _ _ h => h.elim)))) (fun h => j_vret rfl dX11_fills_11 h))) (fun _ _ h => h.elim))))
theorem MX11_fills {d : Nat} {x0 : Nat} {S : MS} {Q : Out → MS → Prop} (h : VX11_fills_0 d Q x0 S) : Mw hX11_fills yX11_fills (d + 1) [vA x0] S Q := Mw.ofJ (by decide) (Nat.le_of_ble_eq_true rfl) (JX11_fills_0 _ S h)
theorem dX11_follows_0 : decode cX11_follows 0 = .ok (.iload_n 3, 1) := by decide +kernel
theorem dX11_follows_1 : decode cX11_follows 1 = .ok (.iconst 2, 1) := by decide +kernel
theorem dX11_follows_2 : decode cX11_follows 2 = .ok (.isub, 1) := by decide +kernel
theorem dX11_follows_3 : decode cX11_follows 3 = .ok (.istore 4, 2) := by decide +kernel
theorem dX11_follows_5 : decode cX11_follows 5 = .ok (.iload 4, 2) := by decide +kernel
theorem dX11_follows_7 : decode cX11_follows 7 = .ok (.ifCond .lt 32, 3) := by decide +kernel
theorem dX11_follows_10 : decode cX11_follows 10 = .ok (.aload_n 0, 1) := by decide +kernel
theorem dX11_follows_11 : decode cX11_follows 11 = .ok (.getfield 34, 3) := by decide +kernel
theorem dX11_follows_14 : decode cX11_follows 14 = .ok (.iload_n 1, 1) := by decide +kernel
theorem dX11_follows_15 : decode cX11_follows 15 = .ok (.iload 4, 2) := by decide +kernel
theorem dX11_follows_17 : decode cX11_follows 17 = .ok (.iadd, 1) := by decide +kernel
theorem dX11_follows_18 : decode cX11_follows 18 = .ok (.baload, 1) := by decide +kernel
theorem dX11_follows_19 : decode cX11_follows 19 = .ok (.aload_n 0, 1) := by decide +kernel
theorem dX11_follows_20 : decode cX11_follows 20 = .ok (.getfield 34, 3) := by decide +kernel
theorem dX11_follows_23 : decode cX11_follows 23 = .ok (.iload_n 1, 1) := by decide +kernel
theorem dX11_follows_24 : decode cX11_follows 24 = .ok (.iload 4, 2) := by decide +kernel
theorem dX11_follows_26 : decode cX11_follows 26 = .ok (.iadd, 1) := by decide +kernel
theorem dX11_follows_27 : decode cX11_follows 27 = .ok (.iconst 1, 1) := by decide +kernel
theorem dX11_follows_28 : decode cX11_follows 28 = .ok (.iadd, 1) := by decide +kernel
theorem dX11_follows_29 : decode cX11_follows 29 = .ok (.baload, 1) := by decide +kernel
theorem dX11_follows_30 : decode cX11_follows 30 = .ok (.if_icmp .le 9, 3) := by decide +kernel
theorem dX11_follows_33 : decode cX11_follows 33 = .ok (.iinc 4 (-1), 3) := by decide +kernel
theorem dX11_follows_36 : decode cX11_follows 36 = .ok (.goto (-31), 3) := by decide +kernel
theorem dX11_follows_39 : decode cX11_follows 39 = .ok (.iload 4, 2) := by decide +kernel
theorem dX11_follows_41 : decode cX11_follows 41 = .ok (.ifCond .ge 5, 3) := by decide +kernel
theorem dX11_follows_44 : decode cX11_follows 44 = .ok (.iconst 0, 1) := by decide +kernel
theorem dX11_follows_45 : decode cX11_follows 45 = .ok (.ireturn, 1) := by decide +kernel
theorem dX11_follows_46 : decode cX11_follows 46 = .ok (.iload_n 3, 1) := by decide +kernel
theorem dX11_follows_47 : decode cX11_follows 47 = .ok (.iconst 1, 1) := by decide +kernel
theorem dX11_follows_48 : decode cX11_follows 48 = .ok (.isub, 1) := by decide +kernel
theorem dX11_follows_49 : decode cX11_follows 49 = .ok (.istore 5, 2) := by decide +kernel
theorem dX11_follows_51 : decode cX11_follows 51 = .ok (.aload_n 0, 1) := by decide +kernel
theorem dX11_follows_52 : decode cX11_follows 52 = .ok (.getfield 34, 3) := by decide +kernel
theorem dX11_follows_55 : decode cX11_follows 55 = .ok (.iload_n 1, 1) := by decide +kernel
theorem dX11_follows_56 : decode cX11_follows 56 = .ok (.iload 5, 2) := by decide +kernel
theorem dX11_follows_58 : decode cX11_follows 58 = .ok (.iadd, 1) := by decide +kernel
theorem dX11_follows_59 : decode cX11_follows 59 = .ok (.baload, 1) := by decide +kernel
theorem dX11_follows_60 : decode cX11_follows 60 = .ok (.aload_n 0, 1) := by decide +kernel
theorem dX11_follows_61 : decode cX11_follows 61 = .ok (.getfield 34, 3) := by decide +kernel
theorem dX11_follows_64 : decode cX11_follows 64 = .ok (.iload_n 1, 1) := by decide +kernel
theorem dX11_follows_65 : decode cX11_follows 65 = .ok (.iload 4, 2) := by decide +kernel
theorem dX11_follows_67 : decode cX11_follows 67 = .ok (.iadd, 1) := by decide +kernel
theorem dX11_follows_68 : decode cX11_follows 68 = .ok (.baload, 1) := by decide +kernel
theorem dX11_follows_69 : decode cX11_follows 69 = .ok (.if_icmp .ge 9, 3) := by decide +kernel
theorem dX11_follows_72 : decode cX11_follows 72 = .ok (.iinc 5 (-1), 3) := by decide +kernel
theorem dX11_follows_75 : decode cX11_follows 75 = .ok (.goto (-24), 3) := by decide +kernel
theorem dX11_follows_78 : decode cX11_follows 78 = .ok (.iconst 0, 1) := by decide +kernel
theorem dX11_follows_79 : decode cX11_follows 79 = .ok (.istore 6, 2) := by decide +kernel
theorem dX11_follows_81 : decode cX11_follows 81 = .ok (.iload 6, 2) := by decide +kernel
theorem dX11_follows_83 : decode cX11_follows 83 = .ok (.iload_n 3, 1) := by decide +kernel
theorem dX11_follows_84 : decode cX11_follows 84 = .ok (.if_icmp .ge 27, 3) := by decide +kernel
theorem dX11_follows_87 : decode cX11_follows 87 = .ok (.aload_n 0, 1) := by decide +kernel
theorem dX11_follows_88 : decode cX11_follows 88 = .ok (.getfield 34, 3) := by decide +kernel
theorem dX11_follows_91 : decode cX11_follows 91 = .ok (.iload_n 2, 1) := by decide +kernel
theorem dX11_follows_92 : decode cX11_follows 92 = .ok (.iload 6, 2) := by decide +kernel
theorem dX11_follows_94 : decode cX11_follows 94 = .ok (.iadd, 1) := by decide +kernel
theorem dX11_follows_95 : decode cX11_follows 95 = .ok (.aload_n 0, 1) := by decide +kernel
theorem dX11_follows_96 : decode cX11_follows 96 = .ok (.getfield 34, 3) := by decide +kernel
theorem dX11_follows_99 : decode cX11_follows 99 = .ok (.iload_n 1, 1) := by decide +kernel
theorem dX11_follows_100 : decode cX11_follows 100 = .ok (.iload 6, 2) := by decide +kernel
theorem dX11_follows_102 : decode cX11_follows 102 = .ok (.iadd, 1) := by decide +kernel
theorem dX11_follows_103 : decode cX11_follows 103 = .ok (.baload, 1) := by decide +kernel
theorem dX11_follows_104 : decode cX11_follows 104 = .ok (.bastore, 1) := by decide +kernel
theorem dX11_follows_105 : decode cX11_follows 105 = .ok (.iinc 6 1, 3) := by decide +kernel
theorem dX11_follows_108 : decode cX11_follows 108 = .ok (.goto (-27), 3) := by decide +kernel
theorem dX11_follows_111 : decode cX11_follows 111 = .ok (.aload_n 0, 1) := by decide +kernel
theorem dX11_follows_112 : decode cX11_follows 112 = .ok (.getfield 34, 3) := by decide +kernel
theorem dX11_follows_115 : decode cX11_follows 115 = .ok (.iload_n 2, 1) := by decide +kernel
theorem dX11_follows_116 : decode cX11_follows 116 = .ok (.iload 4, 2) := by decide +kernel
theorem dX11_follows_118 : decode cX11_follows 118 = .ok (.iadd, 1) := by decide +kernel
theorem dX11_follows_119 : decode cX11_follows 119 = .ok (.aload_n 0, 1) := by decide +kernel
theorem dX11_follows_120 : decode cX11_follows 120 = .ok (.getfield 34, 3) := by decide +kernel
theorem dX11_follows_123 : decode cX11_follows 123 = .ok (.iload_n 1, 1) := by decide +kernel
theorem dX11_follows_124 : decode cX11_follows 124 = .ok (.iload 5, 2) := by decide +kernel
theorem dX11_follows_126 : decode cX11_follows 126 = .ok (.iadd, 1) := by decide +kernel
theorem dX11_follows_127 : decode cX11_follows 127 = .ok (.baload, 1) := by decide +kernel
theorem dX11_follows_128 : decode cX11_follows 128 = .ok (.bastore, 1) := by decide +kernel
theorem dX11_follows_129 : decode cX11_follows 129 = .ok (.aload_n 0, 1) := by decide +kernel
theorem dX11_follows_130 : decode cX11_follows 130 = .ok (.getfield 34, 3) := by decide +kernel
theorem dX11_follows_133 : decode cX11_follows 133 = .ok (.iload_n 2, 1) := by decide +kernel
theorem dX11_follows_134 : decode cX11_follows 134 = .ok (.iload 5, 2) := by decide +kernel
theorem dX11_follows_136 : decode cX11_follows 136 = .ok (.iadd, 1) := by decide +kernel
theorem dX11_follows_137 : decode cX11_follows 137 = .ok (.aload_n 0, 1) := by decide +kernel
theorem dX11_follows_138 : decode cX11_follows 138 = .ok (.getfield 34, 3) := by decide +kernel
theorem dX11_follows_141 : decode cX11_follows 141 = .ok (.iload_n 1, 1) := by decide +kernel
theorem dX11_follows_142 : decode cX11_follows 142 = .ok (.iload 4, 2) := by decide +kernel
theorem dX11_follows_144 : decode cX11_follows 144 = .ok (.iadd, 1) := by decide +kernel
theorem dX11_follows_145 : decode cX11_follows 145 = .ok (.baload, 1) := by decide +kernel
theorem dX11_follows_146 : decode cX11_follows 146 = .ok (.bastore, 1) := by decide +kernel
theorem dX11_follows_147 : decode cX11_follows 147 = .ok (.iload 4, 2) := by decide +kernel
theorem dX11_follows_149 : decode cX11_follows 149 = .ok (.iconst 1, 1) := by decide +kernel
theorem dX11_follows_150 : decode cX11_follows 150 = .ok (.iadd, 1) := by decide +kernel
theorem dX11_follows_151 : decode cX11_follows 151 = .ok (.istore 6, 2) := by decide +kernel
theorem dX11_follows_153 : decode cX11_follows 153 = .ok (.iload_n 3, 1) := by decide +kernel
theorem dX11_follows_154 : decode cX11_follows 154 = .ok (.iconst 1, 1) := by decide +kernel
theorem dX11_follows_155 : decode cX11_follows 155 = .ok (.isub, 1) := by decide +kernel
theorem dX11_follows_156 : decode cX11_follows 156 = .ok (.istore 7, 2) := by decide +kernel
theorem dX11_follows_158 : decode cX11_follows 158 = .ok (.iload 6, 2) := by decide +kernel
theorem dX11_follows_160 : decode cX11_follows 160 = .ok (.iload 7, 2) := by decide +kernel
theorem dX11_follows_162 : decode cX11_follows 162 = .ok (.if_icmp .ge 52, 3) := by decide +kernel
theorem dX11_follows_165 : decode cX11_follows 165 = .ok (.aload_n 0, 1) := by decide +kernel
theorem dX11_follows_166 : decode cX11_follows 166 = .ok (.getfield 34, 3) := by decide +kernel
theorem dX11_follows_169 : decode cX11_follows 169 = .ok (.iload_n 2, 1) := by decide +kernel
theorem dX11_follows_170 : decode cX11_follows 170 = .ok (.iload 6, 2) := by decide +kernel
theorem dX11_follows_172 : decode cX11_follows 172 = .ok (.iadd, 1) := by decide +kernel
theorem dX11_follows_173 : decode cX11_follows 173 = .ok (.baload, 1) := by decide +kernel
theorem dX11_follows_174 : decode cX11_follows 174 = .ok (.istore 8, 2) := by decide +kernel
theorem dX11_follows_176 : decode cX11_follows 176 = .ok (.aload_n 0, 1) := by decide +kernel
theorem dX11_follows_177 : decode cX11_follows 177 = .ok (.getfield 34, 3) := by decide +kernel
theorem dX11_follows_180 : decode cX11_follows 180 = .ok (.iload_n 2, 1) := by decide +kernel
theorem dX11_follows_181 : decode cX11_follows 181 = .ok (.iload 6, 2) := by decide +kernel
theorem dX11_follows_183 : decode cX11_follows 183 = .ok (.iadd, 1) := by decide +kernel
theorem dX11_follows_184 : decode cX11_follows 184 = .ok (.aload_n 0, 1) := by decide +kernel
theorem dX11_follows_185 : decode cX11_follows 185 = .ok (.getfield 34, 3) := by decide +kernel
theorem dX11_follows_188 : decode cX11_follows 188 = .ok (.iload_n 2, 1) := by decide +kernel
theorem dX11_follows_189 : decode cX11_follows 189 = .ok (.iload 7, 2) := by decide +kernel
theorem dX11_follows_191 : decode cX11_follows 191 = .ok (.iadd, 1) := by decide +kernel
theorem dX11_follows_192 : decode cX11_follows 192 = .ok (.baload, 1) := by decide +kernel
theorem dX11_follows_193 : decode cX11_follows 193 = .ok (.bastore, 1) := by decide +kernel
theorem dX11_follows_194 : decode cX11_follows 194 = .ok (.aload_n 0, 1) := by decide +kernel
theorem dX11_follows_195 : decode cX11_follows 195 = .ok (.getfield 34, 3) := by decide +kernel
theorem dX11_follows_198 : decode cX11_follows 198 = .ok (.iload_n 2, 1) := by decide +kernel
theorem dX11_follows_199 : decode cX11_follows 199 = .ok (.iload 7, 2) := by decide +kernel
theorem dX11_follows_201 : decode cX11_follows 201 = .ok (.iadd, 1) := by decide +kernel
theorem dX11_follows_202 : decode cX11_follows 202 = .ok (.iload 8, 2) := by decide +kernel
theorem dX11_follows_204 : decode cX11_follows 204 = .ok (.bastore, 1) := by decide +kernel
theorem dX11_follows_205 : decode cX11_follows 205 = .ok (.iinc 6 1, 3) := by decide +kernel
theorem dX11_follows_208 : decode cX11_follows 208 = .ok (.iinc 7 (-1), 3) := by decide +kernel
theorem dX11_follows_211 : decode cX11_follows 211 = .ok (.goto (-53), 3) := by decide +kernel
theorem dX11_follows_214 : decode cX11_follows 214 = .ok (.iconst 1, 1) := by decide +kernel
theorem dX11_follows_215 : decode cX11_follows 215 = .ok (.ireturn, 1) := by decide +kernel
def VX11_follows_158 (d : Nat) (Q : Out → MS → Prop) : Nat → Nat → Int → Int → Int → MS → Prop
  | 0, _, _, _, _, _ => False
  | n + 1, x0, x2, x6, x7, S => (R32 x6 ∧ R32 x7) ∧ ((x7 ≤ x6) → B01 1 ∧ Q (.inl (some (vI 1))) S) ∧ (¬ (x7 ≤ x6) → S.K x0 = 11 ∧ ∃ b1, S.R x0 12 = some b1 ∧ ((S.K b1 = 12 ∧ 0 ≤ (x2 + x6) ∧ (x2 + x6) < S.N b1) ∧ (S.K x0 = 11 ∧ ∃ b2, S.R x0 12 = some b2 ∧ (S.K x0 = 11 ∧ ∃ b3, S.R x0 12 = some b3 ∧ ((S.K b3 = 12 ∧ 0 ≤ (x2 + x7) ∧ (x2 + x7) < S.N b3) ∧ ((S.K b2 = 12 ∧ 0 ≤ (x2 + x6) ∧ (x2 + x6) < S.N b2) ∧ ((S.setI b2 ((x2 + x6)).toNat (i2B (S.I b3 ((x2 + x7)).toNat))).K x0 = 11 ∧ ∃ b4, (S.setI b2 ((x2 + x6)).toNat (i2B (S.I b3 ((x2 + x7)).toNat))).R x0 12 = some b4 ∧ (((S.setI b2 ((x2 + x6)).toNat (i2B (S.I b3 ((x2 + x7)).toNat))).K b4 = 12 ∧ 0 ≤ (x2 + x7) ∧ (x2 + x7) < (S.setI b2 ((x2 + x6)).toNat (i2B (S.I b3 ((x2 + x7)).toNat))).N b4) ∧ (∀ S5 : MS, S5 = (S.setI b2 ((x2 + x6)).toNat (i2B (S.I b3 ((x2 + x7)).toNat))).setI b4 ((x2 + x7)).toNat (i2B (S.I b1 ((x2 + x6)).toNat)) → (VX11_follows_158 d Q n) x0 x2 (x6 + 1) (x7 + (-1)) S5)))))))))
theorem JX11_follows_158 {d : Nat} {S0 : MS} {Q : Out → MS → Prop} : ∀ (n : Nat) (x0 : Nat) (x2 : Int) (x6 : Int) (x7 : Int) (S : MS), VX11_follows_158 d Q n x0 x2 x6 x7 S → Jw FinM RX11 cX11_follows 9 (some .boolean) [] yX11_follows (d + 1) S0 S 158 [(0, vA x0), (2, vI x2), (6, vI x6), (7, vI x7)] [] Q := by
  intro n
  induction n with
  | zero => intro x0 x2 x6 x7 S h; exact h.elim
  | succ n ih =>
    intro x0 x2 x6 x7 S h
    exact j_iload 2 dX11_follows_158 rfl (j_iload 3 dX11_follows_160 rfl (j_icmp_ge (tgt := 214) dX11_follows_162 (by decide) h (fun h => j_iconst dX11_follows_214 (j_zret rfl dX11_follows_215 h)) (fun h => j_aload_n 0 dX11_follows_165 rfl (j_getR 11 12 f_RX11_34 dX11_follows_166 h (fun b1 h => j_iload_n 1 dX11_follows_169 rfl (j_iload 2 dX11_follows_170 rfl (j_iadd dX11_follows_172 (j_bald dX11_follows_173 h (fun h => j_istore (lv2 := [(8, vI (S.I b1 ((x2 + x6)).toNat)), (0, vA x0), (2, vI x2), (6, vI x6), (7, vI x7)]) dX11_follows_174 (by decide) rfl (j_aload_n 1 dX11_follows_176 rfl (j_getR 11 12 f_RX11_34 dX11_follows_177 h (fun b2 h => j_iload_n 2 dX11_follows_180 rfl (j_iload 3 dX11_follows_181 rfl (j_iadd dX11_follows_183 (j_aload_n 1 dX11_follows_184 rfl (j_getR 11 12 f_RX11_34 dX11_follows_185 h (fun b3 h => j_iload_n 2 dX11_follows_188 rfl (j_iload 4 dX11_follows_189 rfl (j_iadd dX11_follows_191 (j_bald dX11_follows_192 h (fun h => j_bast dX11_follows_193 h (fun h => j_aload_n 1 dX11_follows_194 rfl (j_getR 11 12 f_RX11_34 dX11_follows_195 h (fun b4 h => j_iload_n 2 dX11_follows_198 rfl (j_iload 4 dX11_follows_199 rfl (j_iadd dX11_follows_201 (j_iload 0 dX11_follows_202 rfl (j_bast dX11_follows_204 h (fun h => j_bind h (fun S5 h => j_iinc 3 (lv2 := [(6, vI (x6 + 1)), (8, vI (S.I b1 ((x2 + x6)).toNat)), (0, vA x0), (2, vI x2), (7, vI x7)]) dX11_follows_205 rfl (by decide) rfl (j_iinc 4 (lv2 := [(7, vI (x7 + (-1))), (6, vI (x6 + 1)), (8, vI (S.I b1 ((x2 + x6)).toNat)), (0, vA x0), (2, vI x2)]) dX11_follows_208 rfl (by decide) rfl (j_goto (tgt := 158) dX11_follows_211 (by decide) (j_sub [3, 4, 1, 0] rfl (ih _ _ _ _ _ h))))))))))))))))))))))))))))))))))
def VX11_follows_81 (d : Nat) (Q : Out → MS → Prop) : Nat → Nat → Int → Int → Int → Int → Int → Int → MS → Prop
  | 0, _, _, _, _, _, _, _, _ => False
  | n + 1, x0, x1, x2, x3, x4, x5, x6, S => (R32 x6 ∧ R32 x3) ∧ ((x3 ≤ x6) → S.K x0 = 11 ∧ ∃ b1, S.R x0 12 = some b1 ∧ (S.K x0 = 11 ∧ ∃ b2, S.R x0 12 = some b2 ∧ ((S.K b2 = 12 ∧ 0 ≤ (x1 + x5) ∧ (x1 + x5) < S.N b2) ∧ ((S.K b1 = 12 ∧ 0 ≤ (x2 + x4) ∧ (x2 + x4) < S.N b1) ∧ ((S.setI b1 ((x2 + x4)).toNat (i2B (S.I b2 ((x1 + x5)).toNat))).K x0 = 11 ∧ ∃ b3, (S.setI b1 ((x2 + x4)).toNat (i2B (S.I b2 ((x1 + x5)).toNat))).R x0 12 = some b3 ∧ ((S.setI b1 ((x2 + x4)).toNat (i2B (S.I b2 ((x1 + x5)).toNat))).K x0 = 11 ∧ ∃ b4, (S.setI b1 ((x2 + x4)).toNat (i2B (S.I b2 ((x1 + x5)).toNat))).R x0 12 = some b4 ∧ (((S.setI b1 ((x2 + x4)).toNat (i2B (S.I b2 ((x1 + x5)).toNat))).K b4 = 12 ∧ 0 ≤ (x1 + x4) ∧ (x1 + x4) < (S.setI b1 ((x2 + x4)).toNat (i2B (S.I b2 ((x1 + x5)).toNat))).N b4) ∧ (((S.setI b1 ((x2 + x4)).toNat (i2B (S.I b2 ((x1 + x5)).toNat))).K b3 = 12 ∧ 0 ≤ (x2 + x5) ∧ (x2 + x5) < (S.setI b1 ((x2 + x4)).toNat (i2B (S.I b2 ((x1 + x5)).toNat))).N b3) ∧ (∀ S5 : MS, S5 = (S.setI b1 ((x2 + x4)).toNat (i2B (S.I b2 ((x1 + x5)).toNat))).setI b3 ((x2 + x5)).toNat (i2B ((S.setI b1 ((x2 + x4)).toNat (i2B (S.I b2 ((x1 + x5)).toNat))).I b4 ((x1 + x4)).toNat)) → ∃ m, VX11_follows_158 d Q m x0 x2 (x4 + 1) (x3 - 1) S5))))))))) ∧ (¬ (x3 ≤ x6) → S.K x0 = 11 ∧ ∃ b6, S.R x0 12 = some b6 ∧ (S.K x0 = 11 ∧ ∃ b7, S.R x0 12 = some b7 ∧ ((S.K b7 = 12 ∧ 0 ≤ (x1 + x6) ∧ (x1 + x6) < S.N b7) ∧ ((S.K b6 = 12 ∧ 0 ≤ (x2 + x6) ∧ (x2 + x6) < S.N b6) ∧ ((VX11_follows_81 d Q n) x0 x1 x2 x3 x4 x5 (x6 + 1) (S.setI b6 ((x2 + x6)).toNat (i2B (S.I b7 ((x1 + x6)).toNat))))))))
theorem JX11_follows_81 {d : Nat} {S0 : MS} {Q : Out → MS → Prop} : ∀ (n : Nat) (x0 : Nat) (x1 : Int) (x2 : Int) (x3 : Int) (x4 : Int) (x5 : Int) (x6 : Int) (S : MS), VX11_follows_81 d Q n x0 x1 x2 x3 x4 x5 x6 S → Jw FinM RX11 cX11_follows 9 (some .boolean) [] yX11_follows (d + 1) S0 S 81 [(0, vA x0), (1, vI x1), (2, vI x2), (3, vI x3), (4, vI x4), (5, vI x5), (6, vI x6)] [] Q := by
  intro n
  induction n with
  | zero => intro x0 x1 x2 x3 x4 x5 x6 S h; exact h.elim
  | succ n ih =>
    intro x0 x1 x2 x3 x4 x5 x6 S h
    exact j_iload 6 dX11_follows_81 rfl (j_iload_n 3 dX11_follows_83 rfl (j_icmp_ge (tgt := 111) dX11_follows_84 (by decide) h (fun h => j_aload_n 0 dX11_follows_111 rfl (j_getR 11 12 f_RX11_34 dX11_follows_112 h (fun b1 h => j_iload_n 2 dX11_follows_115 rfl (j_iload 4 dX11_follows_116 rfl (j_iadd dX11_follows_118 (j_aload_n 0 dX11_follows_119 rfl (j_getR 11 12 f_RX11_34 dX11_follows_120 h (fun b2 h => j_iload_n 1 dX11_follows_123 rfl (j_iload 5 dX11_follows_124 rfl (j_iadd dX11_follows_126 (j_bald dX11_follows_127 h (fun h => j_bast dX11_follows_128 h (fun h => j_aload_n 0 dX11_follows_129 rfl (j_getR 11 12 f_RX11_34 dX11_follows_130 h (fun b3 h => j_iload_n 2 dX11_follows_133 rfl (j_iload 5 dX11_follows_134 rfl (j_iadd dX11_follows_136 (j_aload_n 0 dX11_follows_137 rfl (j_getR 11 12 f_RX11_34 dX11_follows_138 h (fun b4 h => j_iload_n 1 dX11_follows_141 rfl (j_iload 4 dX11_follows_142 rfl (j_iadd dX11_follows_144 (j_bald dX11_follows_145 h (fun h => j_bast dX11_follows_146 h (fun h => j_bind h (fun S5 h => j_iload 4 dX11_follows_147 rfl (j_iconst dX11_follows_149 (j_iadd dX11_follows_150 (j_istore (lv2 := [(6, vI (x4 + 1)), (0, vA x0), (1, vI x1), (2, vI x2), (3, vI x3), (4, vI x4), (5, vI x5)]) dX11_follows_151 (by decide) rfl (j_iload_n 4 dX11_follows_153 rfl (j_iconst dX11_follows_154 (j_isub dX11_follows_155 (j_istore (lv2 := [(7, vI (x3 - 1)), (6, vI (x4 + 1)), (0, vA x0), (1, vI x1), (2, vI x2), (3, vI x3), (4, vI x4), (5, vI x5)]) dX11_follows_156 (by decide) rfl (Exists.elim h (fun m h => j_sub [2, 4, 1, 0] rfl (JX11_follows_158 m _ _ _ _ _ h)))))))))))))))))))))))))))))))))))) (fun h => j_aload_n 0 dX11_follows_87 rfl (j_getR 11 12 f_RX11_34 dX11_follows_88 h (fun b6 h => j_iload_n 2 dX11_follows_91 rfl (j_iload 6 dX11_follows_92 rfl (j_iadd dX11_follows_94 (j_aload_n 0 dX11_follows_95 rfl (j_getR 11 12 f_RX11_34 dX11_follows_96 h (fun b7 h => j_iload_n 1 dX11_follows_99 rfl (j_iload 6 dX11_follows_100 rfl (j_iadd dX11_follows_102 (j_bald dX11_follows_103 h (fun h => j_bast dX11_follows_104 h (fun h => j_iinc 6 (lv2 := [(6, vI (x6 + 1)), (0, vA x0), (1, vI x1), (2, vI x2), (3, vI x3), (4, vI x4), (5, vI x5)]) dX11_follows_105 rfl (by decide) rfl (j_goto (tgt := 81) dX11_follows_108 (by decide) (j_sub [1, 2, 3, 4, 5, 6, 0] rfl (ih _ _ _ _ _ _ _ _ h))))))))))))))))))
def VX11_follows_51 (d : Nat) (Q : Out → MS → Prop) : Nat → Nat → Int → Int → Int → Int → Int → MS → Prop
  | 0, _, _, _, _, _, _, _ => False
  | n + 1, x0, x1, x2, x3, x4, x5, S => S.K x0 = 11 ∧ ∃ b1, S.R x0 12 = some b1 ∧ ((S.K b1 = 12 ∧ 0 ≤ (x1 + x5) ∧ (x1 + x5) < S.N b1) ∧ (S.K x0 = 11 ∧ ∃ b2, S.R x0 12 = some b2 ∧ ((S.K b2 = 12 ∧ 0 ≤ (x1 + x4) ∧ (x1 + x4) < S.N b2) ∧ ((R32 (S.I b1 ((x1 + x5)).toNat) ∧ R32 (S.I b2 ((x1 + x4)).toNat)) ∧ (((S.I b2 ((x1 + x4)).toNat) ≤ (S.I b1 ((x1 + x5)).toNat)) → ∃ m, VX11_follows_81 d Q m x0 x1 x2 x3 x4 x5 0 S) ∧ (¬ ((S.I b2 ((x1 + x4)).toNat) ≤ (S.I b1 ((x1 + x5)).toNat)) → (VX11_follows_51 d Q n) x0 x1 x2 x3 x4 (x5 + (-1)) S)))))
theorem JX11_follows_51 {d : Nat} {S0 : MS} {Q : Out → MS → Prop} : ∀ (n : Nat) (x0 : Nat) (x1 : Int) (x2 : Int) (x3 : Int) (x4 : Int) (x5 : Int) (S : MS), VX11_follows_51 d Q n x0 x1 x2 x3 x4 x5 S → Jw FinM RX11 cX11_follows 9 (some .boolean) [] yX11_follows (d + 1) S0 S 51 [(0, vA x0), (1, vI x1), (2, vI x2), (3, vI x3), (4, vI x4), (5, vI x5)] [] Q := by
  intro n
  induction n with
  | zero => intro x0 x1 x2 x3 x4 x5 S h; exact h.elim
  | succ n ih =>
    intro x0 x1 x2 x3 x4 x5 S h
    exact j_aload_n 0 dX11_follows_51 rfl (j_getR 11 12 f_RX11_34 dX11_follows_52 h (fun b1 h => j_iload_n 1 dX11_follows_55 rfl (j_iload 5 dX11_follows_56 rfl (j_iadd dX11_follows_58 (j_bald dX11_follows_59 h (fun h => j_aload_n 0 dX11_follows_60 rfl (j_getR 11 12 f_RX11_34 dX11_follows_61 h (fun b2 h => j_iload_n 1 dX11_follows_64 rfl (j_iload 4 dX11_follows_65 rfl (j_iadd dX11_follows_67 (j_bald dX11_follows_68 h (fun h => j_icmp_ge (tgt := 78) dX11_follows_69 (by decide) h (fun h => j_iconst dX11_follows_78 (j_istore (lv2 := [(6, vI 0), (0, vA x0), (1, vI x1), (2, vI x2), (3, vI x3), (4, vI x4), (5, vI x5)]) dX11_follows_79 (by decide) rfl (Exists.elim h (fun m h => j_sub [1, 2, 3, 4, 5, 6, 0] rfl (JX11_follows_81 m _ _ _ _ _ _ _ _ h))))) (fun h => j_iinc 5 (lv2 := [(5, vI (x5 + (-1))), (0, vA x0), (1, vI x1), (2, vI x2), (3, vI x3), (4, vI x4)]) dX11_follows_72 rfl (by decide) rfl (j_goto (tgt := 51) dX11_follows_75 (by decide) (j_sub [1, 2, 3, 4, 5, 0] rfl (ih _ _ _ _ _ _ _ h))))))))))))))))
def VX11_follows_39 (d : Nat) (Q : Out → MS → Prop) (x0 : Nat) (x1 : Int) (x2 : Int) (x3 : Int) (x4 : Int) (S : MS) : Prop :=
  R32 x4 ∧ ((0 ≤ x4) → ∃ m, VX11_follows_51 d Q m x0 x1 x2 x3 x4 (x3 - 1) S) ∧ (¬ (0 ≤ x4) → B01 0 ∧ Q (.inl (some (vI 0))) S)
theorem JX11_follows_39 {d : Nat} {S0 : MS} {Q : Out → MS → Prop} (x0 : Nat) (x1 : Int) (x2 : Int) (x3 : Int) (x4 : Int) (S : MS) (h : VX11_follows_39 d Q x0 x1 x2 x3 x4 S) : Jw FinM RX11 cX11_follows 9 (some .boolean) [] yX11_follows (d + 1) S0 S 39 [(0, vA x0), (1, vI x1), (2, vI x2), (3, vI x3), (4, vI x4)] [] Q :=
  j_iload 4 dX11_follows_39 rfl (j_if_ge (tgt := 46) dX11_follows_41 (by decide) h (fun h => j_iload_n 3 dX11_follows_46 rfl (j_iconst dX11_follows_47 (j_isub dX11_follows_48 (j_istore (lv2 := [(5, vI (x3 - 1)), (0, vA x0), (1, vI x1), (2, vI x2), (3, vI x3), (4, vI x4)]) dX11_follows_49 (by decide) rfl (Exists.elim h (fun m h => j_sub [1, 2, 3, 4, 5, 0] rfl (JX11_follows_51 m _ _ _ _ _ _ _ h))))))) (fun h => j_iconst dX11_follows_44 (j_zret rfl dX11_follows_45 h)))
def VX11_follows_5 (d : Nat) (Q : Out → MS → Prop) : Nat → Nat → Int → Int → Int → Int → MS → Prop
  | 0, _, _, _, _, _, _ => False
  | n + 1, x0, x1, x2, x3, x4, S => R32 x4 ∧ ((x4 < 0) → VX11_follows_39 d Q x0 x1 x2 x3 x4 S) ∧ (¬ (x4 < 0) → S.K x0 = 11 ∧ ∃ b1, S.R x0 12 = some b1 ∧ ((S.K b1 = 12 ∧ 0 ≤ (x1 + x4) ∧ (x1 + x4) < S.N b1) ∧ (S.K x0 = 11 ∧ ∃ b2, S.R x0 12 = some b2 ∧ ((S.K b2 = 12 ∧ 0 ≤ ((x1 + x4) + 1) ∧ ((x1 + x4) + 1) < S.N b2) ∧ ((R32 (S.I b1 ((x1 + x4)).toNat) ∧ R32 (S.I b2 (((x1 + x4) + 1)).toNat)) ∧ (((S.I b1 ((x1 + x4)).toNat) ≤ (S.I b2 (((x1 + x4) + 1)).toNat)) → VX11_follows_39 d Q x0 x1 x2 x3 x4 S) ∧ (¬ ((S.I b1 ((x1 + x4)).toNat) ≤ (S.I b2 (((x1 + x4) + 1)).toNat)) → (VX11_follows_5 d Q n) x0 x1 x2 x3 (x4 + (-1)) S))))))
theorem JX11_follows_5 {d : Nat} {S0 : MS} {Q : Out → MS → Prop} : ∀ (n : Nat) (x0 : Nat) (x1 : Int) (x2 : Int) (x3 : Int) (x4 : Int) (S : MS), VX11_follows_5 d Q n x0 x1 x2 x3 x4 S → Jw FinM RX11 cX11_follows 9 (some .boolean) [] yX11_follows (d + 1) S0 S 5 [(0, vA x0), (1, vI x1), (2, vI x2), (3, vI x3), (4, vI x4)] [] Q := by
  intro n
  induction n with
  | zero => intro x0 x1 x2 x3 x4 S h; exact h.elim
  | succ n ih =>
    intro x0 x1 x2 x3 x4 S h
    exact j_iload 4 dX11_follows_5 rfl (j_if_lt (tgt := 39) dX11_follows_7 (by decide) h (fun h => JX11_follows_39 _ _ _ _ _ _ h) (fun h => j_aload_n 0 dX11_follows_10 rfl (j_getR 11 12 f_RX11_34 dX11_follows_11 h (fun b1 h => j_iload_n 1 dX11_follows_14 rfl (j_iload 4 dX11_follows_15 rfl (j_iadd dX11_follows_17 (j_bald dX11_follows_18 h (fun h => j_aload_n 0 dX11_follows_19 rfl (j_getR 11 12 f_RX11_34 dX11_follows_20 h (fun b2 h => j_iload_n 1 dX11_follows_23 rfl (j_iload 4 dX11_follows_24 rfl (j_iadd dX11_follows_26 (j_iconst dX11_follows_27 (j_iadd dX11_follows_28 (j_bald dX11_follows_29 h (fun h => j_icmp_le (tgt := 39) dX11_follows_30 (by decide) h (fun h => JX11_follows_39 _ _ _ _ _ _ h) (fun h => j_iinc 4 (lv2 := [(4, vI (x4 + (-1))), (0, vA x0), (1, vI x1), (2, vI x2), (3, vI x3)]) dX11_follows_33 rfl (by decide) rfl (j_goto (tgt := 5) dX11_follows_36 (by decide) (j_sub [1, 2, 3, 4, 0] rfl (ih _ _ _ _ _ _ h))))))))))))))))))))
def VX11_follows_0 (d : Nat) (Q : Out → MS → Prop) (x0 : Nat) (x1 : Int) (x2 : Int) (x3 : Int) (S : MS) : Prop :=
  ∃ m, VX11_follows_5 d Q m x0 x1 x2 x3 (x3 - 2) S
theorem JX11_follows_0 {d : Nat} {S0 : MS} {Q : Out → MS → Prop} (x0 : Nat) (x1 : Int) (x2 : Int) (x3 : Int) (S : MS) (h : VX11_follows_0 d Q x0 x1 x2 x3 S) : Jw FinM RX11 cX11_follows 9 (some .boolean) [] yX11_follows (d + 1) S0 S 0 [(0, vA x0), (1, vI x1), (2, vI x2), (3, vI x3)] [] Q :=
  j_iload_n 3 dX11_follows_0 rfl (j_iconst dX11_follows_1 (j_isub dX11_follows_2 (j_istore (lv2 := [(4, vI (x3 - 2)), (0, vA x0), (1, vI x1), (2, vI x2), (3, vI x3)]) dX11_follows_3 (by decide) rfl (Exists.elim h (fun m h => j_sub [1, 2, 3, 4, 0] rfl (JX11_follows_5 m _ _ _ _ _ _ h))))))
theorem MX11_follows {d : Nat} {x0 : Nat} {x1 : Int} {x2 : Int} {x3 : Int} {S : MS} {Q : Out → MS → Prop} (h : VX11_follows_0 d Q x0 x1 x2 x3 S) : Mw hX11_follows yX11_follows (d + 1) [vA x0, vI x1, vI x2, vI x3] S Q := Mw.ofJ (by decide) (Nat.le_of_ble_eq_true rfl) (JX11_follows_0 _ _ _ _ S h)
theorem dX11_riser_0 : decode cX11_riser 0 = .ok (.iload_n 1, 1) := by decide +kernel
theorem dX11_riser_1 : decode cX11_riser 1 = .ok (.invokestatic 200, 3) := by decide +kernel
theorem dX11_riser_4 : decode cX11_riser 4 = .ok (.istore 4, 2) := by decide +kernel
theorem dX11_riser_6 : decode cX11_riser 6 = .ok (.iconst 0, 1) := by decide +kernel
theorem dX11_riser_7 : decode cX11_riser 7 = .ok (.istore 5, 2) := by decide +kernel
theorem dX11_riser_9 : decode cX11_riser 9 = .ok (.iload 5, 2) := by decide +kernel
theorem dX11_riser_11 : decode cX11_riser 11 = .ok (.aload_n 0, 1) := by decide +kernel
theorem dX11_riser_12 : decode cX11_riser 12 = .ok (.getfield 222, 3) := by decide +kernel
theorem dX11_riser_15 : decode cX11_riser 15 = .ok (.if_icmp .ge 42, 3) := by decide +kernel
theorem dX11_riser_18 : decode cX11_riser 18 = .ok (.iload_n 2, 1) := by decide +kernel
theorem dX11_riser_19 : decode cX11_riser 19 = .ok (.aload_n 0, 1) := by decide +kernel
theorem dX11_riser_20 : decode cX11_riser 20 = .ok (.iload_n 3, 1) := by decide +kernel
theorem dX11_riser_21 : decode cX11_riser 21 = .ok (.iload 5, 2) := by decide +kernel
theorem dX11_riser_23 : decode cX11_riser 23 = .ok (.invokevirtual 231, 3) := by decide +kernel
theorem dX11_riser_26 : decode cX11_riser 26 = .ok (.ishr, 1) := by decide +kernel
theorem dX11_riser_27 : decode cX11_riser 27 = .ok (.iconst 1, 1) := by decide +kernel
theorem dX11_riser_28 : decode cX11_riser 28 = .ok (.iand, 1) := by decide +kernel
theorem dX11_riser_29 : decode cX11_riser 29 = .ok (.ifCond .ne 6, 3) := by decide +kernel
theorem dX11_riser_32 : decode cX11_riser 32 = .ok (.goto 19, 3) := by decide +kernel
theorem dX11_riser_35 : decode cX11_riser 35 = .ok (.iload 4, 2) := by decide +kernel
theorem dX11_riser_37 : decode cX11_riser 37 = .ok (.ifCond .ne 11, 3) := by decide +kernel
theorem dX11_riser_40 : decode cX11_riser 40 = .ok (.aload_n 0, 1) := by decide +kernel
theorem dX11_riser_41 : decode cX11_riser 41 = .ok (.iload_n 3, 1) := by decide +kernel
theorem dX11_riser_42 : decode cX11_riser 42 = .ok (.iload 5, 2) := by decide +kernel
theorem dX11_riser_44 : decode cX11_riser 44 = .ok (.invokevirtual 231, 3) := by decide +kernel
theorem dX11_riser_47 : decode cX11_riser 47 = .ok (.ireturn, 1) := by decide +kernel
theorem dX11_riser_48 : decode cX11_riser 48 = .ok (.iinc 4 (-1), 3) := by decide +kernel
theorem dX11_riser_51 : decode cX11_riser 51 = .ok (.iinc 5 1, 3) := by decide +kernel
theorem dX11_riser_54 : decode cX11_riser 54 = .ok (.goto (-45), 3) := by decide +kernel
theorem dX11_riser_57 : decode cX11_riser 57 = .ok (.iconst (-1), 1) := by decide +kernel
theorem dX11_riser_58 : decode cX11_riser 58 = .ok (.ireturn, 1) := by decide +kernel
def VX11_riser_51 (d : Nat) (c9 : Nat → Int → Int → Int → Int → MS → Prop) (Q : Out → MS → Prop) (x0 : Nat) (x2 : Int) (x3 : Int) (x4 : Int) (x5 : Int) (S : MS) : Prop :=
  c9 x0 x2 x3 x4 (x5 + 1) S
theorem JX11_riser_51 {d : Nat} {c9 : Nat → Int → Int → Int → Int → MS → Prop} {S0 : MS} {Q : Out → MS → Prop} (hc9 : ∀ (x0 : Nat) (x2 : Int) (x3 : Int) (x4 : Int) (x5 : Int) (S : MS), c9 x0 x2 x3 x4 x5 S → Jw FinM RX11 cX11_riser 6 (some .int) [] yX11_riser (d + 1) S0 S 9 [(0, vA x0), (2, vI x2), (3, vI x3), (4, vI x4), (5, vI x5)] [] Q) (x0 : Nat) (x2 : Int) (x3 : Int) (x4 : Int) (x5 : Int) (S : MS) (h : VX11_riser_51 d c9 Q x0 x2 x3 x4 x5 S) : Jw FinM RX11 cX11_riser 6 (some .int) [] yX11_riser (d + 1) S0 S 51 [(0, vA x0), (2, vI x2), (3, vI x3), (4, vI x4), (5, vI x5)] [] Q :=
  j_iinc 4 (lv2 := [(5, vI (x5 + 1)), (0, vA x0), (2, vI x2), (3, vI x3), (4, vI x4)]) dX11_riser_51 rfl (by decide) rfl (j_goto (tgt := 9) dX11_riser_54 (by decide) (j_sub [1, 2, 3, 4, 0] rfl (hc9 _ _ _ _ _ _ h)))
def VX11_riser_9 (d : Nat) (Q : Out → MS → Prop) : Nat → Nat → Int → Int → Int → Int → MS → Prop
  | 0, _, _, _, _, _, _ => False
  | n + 1, x0, x2, x3, x4, x5, S => S.K x0 = 11 ∧ ((R32 x5 ∧ R32 (S.I x0 14)) ∧ (((S.I x0 14) ≤ x5) → Q (.inl (some (vI ((-1))))) S) ∧ (¬ ((S.I x0 14) ≤ x5) → S.K x0 = 11 ∧ Mw hX11_at yX11_at d [vA x0, vI x3, vI x5] S (oI (fun r1 S1 => R32 (iAnd (iShr x2 r1) 1) ∧ (¬ ((iAnd (iShr x2 r1) 1) = 0) → R32 x4 ∧ (¬ (x4 = 0) → VX11_riser_51 d (VX11_riser_9 d Q n) Q x0 x2 x3 (x4 + (-1)) x5 S1) ∧ ((x4 = 0) → S1.K x0 = 11 ∧ Mw hX11_at yX11_at d [vA x0, vI x3, vI x5] S1 (oI (fun r2 S2 => Q (.inl (some (vI r2))) S2)))) ∧ (((iAnd (iShr x2 r1) 1) = 0) → VX11_riser_51 d (VX11_riser_9 d Q n) Q x0 x2 x3 x4 x5 S1)))))
theorem JX11_riser_9 {d : Nat} {S0 : MS} {Q : Out → MS → Prop} : ∀ (n : Nat) (x0 : Nat) (x2 : Int) (x3 : Int) (x4 : Int) (x5 : Int) (S : MS), VX11_riser_9 d Q n x0 x2 x3 x4 x5 S → Jw FinM RX11 cX11_riser 6 (some .int) [] yX11_riser (d + 1) S0 S 9 [(0, vA x0), (2, vI x2), (3, vI x3), (4, vI x4), (5, vI x5)] [] Q := by
  intro n
  induction n with
  | zero => intro x0 x2 x3 x4 x5 S h; exact h.elim
  | succ n ih =>
    intro x0 x2 x3 x4 x5 S h
    exact j_iload 4 dX11_riser_9 rfl (j_aload_n 0 dX11_riser_11 rfl (j_getI 11 14 f_RX11_222 dX11_riser_12 h (fun h => j_icmp_ge (tgt := 57) dX11_riser_15 (by decide) h (fun h => j_iconst dX11_riser_57 (j_iret rfl dX11_riser_58 h)) (fun h => j_iload_n 1 dX11_riser_18 rfl (j_aload_n 0 dX11_riser_19 rfl (j_iload_n 2 dX11_riser_20 rfl (j_iload 4 dX11_riser_21 rfl (j_callV (rest := [vI x2]) 11 [vI x3, vI x5] k_RX11_231 ⟨w_8_66, p_5_10⟩ ⟨_, _, rfl⟩ (by decide) rfl rfl (Nat.le_of_ble_eq_true rfl) dX11_riser_23 h (kI (fun r1 S1 h => j_ishr dX11_riser_26 (j_iconst dX11_riser_27 (j_iand dX11_riser_28 (j_if_ne (tgt := 35) dX11_riser_29 (by decide) h (fun h => j_iload 3 dX11_riser_35 rfl (j_if_ne (tgt := 48) dX11_riser_37 (by decide) h (fun h => j_iinc 3 (lv2 := [(4, vI (x4 + (-1))), (0, vA x0), (2, vI x2), (3, vI x3), (5, vI x5)]) dX11_riser_48 rfl (by decide) rfl (j_sub [1, 2, 3, 0, 4] rfl (JX11_riser_51 ih _ _ _ _ _ _ h))) (fun h => j_aload_n 0 dX11_riser_40 rfl (j_iload_n 2 dX11_riser_41 rfl (j_iload 4 dX11_riser_42 rfl (j_callV (rest := []) 11 [vI x3, vI x5] k_RX11_231 ⟨w_8_66, p_5_10⟩ ⟨_, _, rfl⟩ (by decide) rfl rfl (Nat.le_of_ble_eq_true rfl) dX11_riser_44 h (kI (fun r2 S2 h => j_iret rfl dX11_riser_47 h)) (fun _ _ h => h.elim))))))) (fun h => j_goto (tgt := 51) dX11_riser_32 (by decide) (JX11_riser_51 ih _ _ _ _ _ _ h))))))) (fun _ _ h => h.elim)))))))))
def VX11_riser_0 (d : Nat) (Q : Out → MS → Prop) (x0 : Nat) (x1 : Int) (x2 : Int) (x3 : Int) (S : MS) : Prop :=
  Mw hX11_below yX11_below d [vI x1] S (oI (fun r1 S1 => ∃ m, VX11_riser_9 d Q m x0 x2 x3 r1 0 S1))
theorem JX11_riser_0 {d : Nat} {S0 : MS} {Q : Out → MS → Prop} (x0 : Nat) (x1 : Int) (x2 : Int) (x3 : Int) (S : MS) (h : VX11_riser_0 d Q x0 x1 x2 x3 S) : Jw FinM RX11 cX11_riser 6 (some .int) [] yX11_riser (d + 1) S0 S 0 [(0, vA x0), (1, vI x1), (2, vI x2), (3, vI x3)] [] Q :=
  j_iload_n 1 dX11_riser_0 rfl (j_callS (rest := []) [vI x1] k_RX11_200 w_8_10 rfl rfl (Nat.le_of_ble_eq_true rfl) dX11_riser_1 h (kI (fun r1 S1 h => j_istore (lv2 := [(4, vI r1), (0, vA x0), (1, vI x1), (2, vI x2), (3, vI x3)]) dX11_riser_4 (by decide) rfl (j_iconst dX11_riser_6 (j_istore (lv2 := [(5, vI 0), (4, vI r1), (0, vA x0), (1, vI x1), (2, vI x2), (3, vI x3)]) dX11_riser_7 (by decide) rfl (Exists.elim h (fun m h => j_sub [2, 4, 5, 1, 0] rfl (JX11_riser_9 m _ _ _ _ _ _ h))))))) (fun _ _ h => h.elim))
theorem MX11_riser {d : Nat} {x0 : Nat} {x1 : Int} {x2 : Int} {x3 : Int} {S : MS} {Q : Out → MS → Prop} (h : VX11_riser_0 d Q x0 x1 x2 x3 S) : Mw hX11_riser yX11_riser (d + 1) [vA x0, vI x1, vI x2, vI x3] S Q := Mw.ofJ (by decide) (Nat.le_of_ble_eq_true rfl) (JX11_riser_0 _ _ _ _ S h)
theorem dX11_fitsNote_0 : decode cX11_fitsNote 0 = .ok (.aload_n 0, 1) := by decide +kernel
theorem dX11_fitsNote_1 : decode cX11_fitsNote 1 = .ok (.aload_n 0, 1) := by decide +kernel
theorem dX11_fitsNote_2 : decode cX11_fitsNote 2 = .ok (.aload_n 0, 1) := by decide +kernel
theorem dX11_fitsNote_3 : decode cX11_fitsNote 3 = .ok (.iload_n 2, 1) := by decide +kernel
theorem dX11_fitsNote_4 : decode cX11_fitsNote 4 = .ok (.iconst 0, 1) := by decide +kernel
theorem dX11_fitsNote_5 : decode cX11_fitsNote 5 = .ok (.invokevirtual 215, 3) := by decide +kernel
theorem dX11_fitsNote_8 : decode cX11_fitsNote 8 = .ok (.iconst 0, 1) := by decide +kernel
theorem dX11_fitsNote_9 : decode cX11_fitsNote 9 = .ok (.invokevirtual 94, 3) := by decide +kernel
theorem dX11_fitsNote_12 : decode cX11_fitsNote 12 = .ok (.aload_n 0, 1) := by decide +kernel
theorem dX11_fitsNote_13 : decode cX11_fitsNote 13 = .ok (.iload_n 2, 1) := by decide +kernel
theorem dX11_fitsNote_14 : decode cX11_fitsNote 14 = .ok (.iconst 1, 1) := by decide +kernel
theorem dX11_fitsNote_15 : decode cX11_fitsNote 15 = .ok (.invokevirtual 215, 3) := by decide +kernel
theorem dX11_fitsNote_18 : decode cX11_fitsNote 18 = .ok (.iload_n 1, 1) := by decide +kernel
theorem dX11_fitsNote_19 : decode cX11_fitsNote 19 = .ok (.invokevirtual 234, 3) := by decide +kernel
theorem dX11_fitsNote_22 : decode cX11_fitsNote 22 = .ok (.aload_n 0, 1) := by decide +kernel
theorem dX11_fitsNote_23 : decode cX11_fitsNote 23 = .ok (.iload_n 2, 1) := by decide +kernel
theorem dX11_fitsNote_24 : decode cX11_fitsNote 24 = .ok (.iconst 2, 1) := by decide +kernel
theorem dX11_fitsNote_25 : decode cX11_fitsNote 25 = .ok (.invokevirtual 215, 3) := by decide +kernel
theorem dX11_fitsNote_28 : decode cX11_fitsNote 28 = .ok (.if_icmp .ne 7, 3) := by decide +kernel
theorem dX11_fitsNote_31 : decode cX11_fitsNote 31 = .ok (.iconst 1, 1) := by decide +kernel
theorem dX11_fitsNote_32 : decode cX11_fitsNote 32 = .ok (.goto 4, 3) := by decide +kernel
theorem dX11_fitsNote_35 : decode cX11_fitsNote 35 = .ok (.iconst 0, 1) := by decide +kernel
theorem dX11_fitsNote_36 : decode cX11_fitsNote 36 = .ok (.ireturn, 1) := by decide +kernel
def VX11_fitsNote_0 (d : Nat) (Q : Out → MS → Prop) (x0 : Nat) (x1 : Int) (x2 : Int) (S : MS) : Prop :=
  S.K x0 = 11 ∧ Mw hX11_ofNote yX11_ofNote d [vA x0, vI x2, vI 0] S (oI (fun r1 S1 => S1.K x0 = 11 ∧ Mw hX11_ofScale yX11_ofScale d [vA x0, vI r1, vI 0] S1 (oI (fun r2 S2 => S2.K x0 = 11 ∧ Mw hX11_ofNote yX11_ofNote d [vA x0, vI x2, vI 1] S2 (oI (fun r3 S3 => S3.K x0 = 11 ∧ Mw hX11_riser yX11_riser d [vA x0, vI r2, vI r3, vI x1] S3 (oI (fun r4 S4 => S4.K x0 = 11 ∧ Mw hX11_ofNote yX11_ofNote d [vA x0, vI x2, vI 2] S4 (oI (fun r5 S5 => (R32 r4 ∧ R32 r5) ∧ (¬ (r4 = r5) → B01 0 ∧ Q (.inl (some (vI 0))) S5) ∧ ((r4 = r5) → B01 1 ∧ Q (.inl (some (vI 1))) S5)))))))))))
theorem JX11_fitsNote_0 {d : Nat} {S0 : MS} {Q : Out → MS → Prop} (x0 : Nat) (x1 : Int) (x2 : Int) (S : MS) (h : VX11_fitsNote_0 d Q x0 x1 x2 S) : Jw FinM RX11 cX11_fitsNote 3 (some .boolean) [] yX11_fitsNote (d + 1) S0 S 0 [(0, vA x0), (1, vI x1), (2, vI x2)] [] Q :=
  j_aload_n 0 dX11_fitsNote_0 rfl (j_aload_n 0 dX11_fitsNote_1 rfl (j_aload_n 0 dX11_fitsNote_2 rfl (j_iload_n 2 dX11_fitsNote_3 rfl (j_iconst dX11_fitsNote_4 (j_callV (rest := [vA x0, vA x0]) 11 [vI x2, vI 0] k_RX11_215 ⟨w_8_26, p_5_2⟩ ⟨_, _, rfl⟩ (by decide) rfl rfl (Nat.le_of_ble_eq_true rfl) dX11_fitsNote_5 h (kI (fun r1 S1 h => j_iconst dX11_fitsNote_8 (j_callV (rest := [vA x0]) 11 [vI r1, vI 0] k_RX11_94 ⟨w_7_239, p_4_14⟩ ⟨_, _, rfl⟩ (by decide) rfl rfl (Nat.le_of_ble_eq_true rfl) dX11_fitsNote_9 h (kI (fun r2 S2 h => j_aload_n 0 dX11_fitsNote_12 rfl (j_iload_n 2 dX11_fitsNote_13 rfl (j_iconst dX11_fitsNote_14 (j_callV (rest := [vI r2, vA x0]) 11 [vI x2, vI 1] k_RX11_215 ⟨w_8_26, p_5_2⟩ ⟨_, _, rfl⟩ (by decide) rfl rfl (Nat.le_of_ble_eq_true rfl) dX11_fitsNote_15 h (kI (fun r3 S3 h => j_iload_n 1 dX11_fitsNote_18 rfl (j_callV (rest := []) 11 [vI r2, vI r3, vI x1] k_RX11_234 ⟨w_8_62, p_5_9⟩ ⟨_, _, rfl⟩ (by decide) rfl rfl (Nat.le_of_ble_eq_true rfl) dX11_fitsNote_19 h (kI (fun r4 S4 h => j_aload_n 0 dX11_fitsNote_22 rfl (j_iload_n 2 dX11_fitsNote_23 rfl (j_iconst dX11_fitsNote_24 (j_callV (rest := [vI r4]) 11 [vI x2, vI 2] k_RX11_215 ⟨w_8_26, p_5_2⟩ ⟨_, _, rfl⟩ (by decide) rfl rfl (Nat.le_of_ble_eq_true rfl) dX11_fitsNote_25 h (kI (fun r5 S5 h => j_icmp_ne (tgt := 35) dX11_fitsNote_28 (by decide) h (fun h => j_iconst dX11_fitsNote_35 (j_zret rfl dX11_fitsNote_36 h)) (fun h => j_iconst dX11_fitsNote_31 (j_goto (tgt := 36) dX11_fitsNote_32 (by decide) (j_zret rfl dX11_fitsNote_36 h))))) (fun _ _ h => h.elim)))))) (fun _ _ h => h.elim)))) (fun _ _ h => h.elim)))))) (fun _ _ h => h.elim)))) (fun _ _ h => h.elim))))))
theorem MX11_fitsNote {d : Nat} {x0 : Nat} {x1 : Int} {x2 : Int} {S : MS} {Q : Out → MS → Prop} (h : VX11_fitsNote_0 d Q x0 x1 x2 S) : Mw hX11_fitsNote yX11_fitsNote (d + 1) [vA x0, vI x1, vI x2] S Q := Mw.ofJ (by decide) (Nat.le_of_ble_eq_true rfl) (JX11_fitsNote_0 _ _ _ S h)
theorem dX11_fitsAll_0 : decode cX11_fitsAll 0 = .ok (.iconst 0, 1) := by decide +kernel
theorem dX11_fitsAll_1 : decode cX11_fitsAll 1 = .ok (.istore_n 3, 1) := by decide +kernel
theorem dX11_fitsAll_2 : decode cX11_fitsAll 2 = .ok (.iload_n 3, 1) := by decide +kernel
theorem dX11_fitsAll_3 : decode cX11_fitsAll 3 = .ok (.iconst 4, 1) := by decide +kernel
theorem dX11_fitsAll_4 : decode cX11_fitsAll 4 = .ok (.if_icmp .ge 16, 3) := by decide +kernel
theorem dX11_fitsAll_7 : decode cX11_fitsAll 7 = .ok (.aload_n 0, 1) := by decide +kernel
theorem dX11_fitsAll_8 : decode cX11_fitsAll 8 = .ok (.getfield 37, 3) := by decide +kernel
theorem dX11_fitsAll_11 : decode cX11_fitsAll 11 = .ok (.iload_n 3, 1) := by decide +kernel
theorem dX11_fitsAll_12 : decode cX11_fitsAll 12 = .ok (.iconst 0, 1) := by decide +kernel
theorem dX11_fitsAll_13 : decode cX11_fitsAll 13 = .ok (.iastore, 1) := by decide +kernel
theorem dX11_fitsAll_14 : decode cX11_fitsAll 14 = .ok (.iinc 3 1, 3) := by decide +kernel
theorem dX11_fitsAll_17 : decode cX11_fitsAll 17 = .ok (.goto (-15), 3) := by decide +kernel
theorem dX11_fitsAll_20 : decode cX11_fitsAll 20 = .ok (.iconst 1, 1) := by decide +kernel
theorem dX11_fitsAll_21 : decode cX11_fitsAll 21 = .ok (.istore_n 3, 1) := by decide +kernel
theorem dX11_fitsAll_22 : decode cX11_fitsAll 22 = .ok (.iconst 0, 1) := by decide +kernel
theorem dX11_fitsAll_23 : decode cX11_fitsAll 23 = .ok (.istore 4, 2) := by decide +kernel
theorem dX11_fitsAll_25 : decode cX11_fitsAll 25 = .ok (.iload 4, 2) := by decide +kernel
theorem dX11_fitsAll_27 : decode cX11_fitsAll 27 = .ok (.aload_n 0, 1) := by decide +kernel
theorem dX11_fitsAll_28 : decode cX11_fitsAll 28 = .ok (.invokevirtual 91, 3) := by decide +kernel
theorem dX11_fitsAll_31 : decode cX11_fitsAll 31 = .ok (.if_icmp .ge 85, 3) := by decide +kernel
theorem dX11_fitsAll_34 : decode cX11_fitsAll 34 = .ok (.iload_n 3, 1) := by decide +kernel
theorem dX11_fitsAll_35 : decode cX11_fitsAll 35 = .ok (.ifCond .eq 81, 3) := by decide +kernel
theorem dX11_fitsAll_38 : decode cX11_fitsAll 38 = .ok (.iload_n 2, 1) := by decide +kernel
theorem dX11_fitsAll_39 : decode cX11_fitsAll 39 = .ok (.iload 4, 2) := by decide +kernel
theorem dX11_fitsAll_41 : decode cX11_fitsAll 41 = .ok (.ishr, 1) := by decide +kernel
theorem dX11_fitsAll_42 : decode cX11_fitsAll 42 = .ok (.iconst 1, 1) := by decide +kernel
theorem dX11_fitsAll_43 : decode cX11_fitsAll 43 = .ok (.iand, 1) := by decide +kernel
theorem dX11_fitsAll_44 : decode cX11_fitsAll 44 = .ok (.iconst 1, 1) := by decide +kernel
theorem dX11_fitsAll_45 : decode cX11_fitsAll 45 = .ok (.if_icmp .eq 65, 3) := by decide +kernel
theorem dX11_fitsAll_48 : decode cX11_fitsAll 48 = .ok (.aload_n 0, 1) := by decide +kernel
theorem dX11_fitsAll_49 : decode cX11_fitsAll 49 = .ok (.iload_n 1, 1) := by decide +kernel
theorem dX11_fitsAll_50 : decode cX11_fitsAll 50 = .ok (.iload 4, 2) := by decide +kernel
theorem dX11_fitsAll_52 : decode cX11_fitsAll 52 = .ok (.invokevirtual 238, 3) := by decide +kernel
theorem dX11_fitsAll_55 : decode cX11_fitsAll 55 = .ok (.ifCond .eq 6, 3) := by decide +kernel
theorem dX11_fitsAll_58 : decode cX11_fitsAll 58 = .ok (.goto 52, 3) := by decide +kernel
theorem dX11_fitsAll_61 : decode cX11_fitsAll 61 = .ok (.aload_n 0, 1) := by decide +kernel
theorem dX11_fitsAll_62 : decode cX11_fitsAll 62 = .ok (.getfield 37, 3) := by decide +kernel
theorem dX11_fitsAll_65 : decode cX11_fitsAll 65 = .ok (.aload_n 0, 1) := by decide +kernel
theorem dX11_fitsAll_66 : decode cX11_fitsAll 66 = .ok (.iload 4, 2) := by decide +kernel
theorem dX11_fitsAll_68 : decode cX11_fitsAll 68 = .ok (.iconst 0, 1) := by decide +kernel
theorem dX11_fitsAll_69 : decode cX11_fitsAll 69 = .ok (.invokevirtual 215, 3) := by decide +kernel
theorem dX11_fitsAll_72 : decode cX11_fitsAll 72 = .ok (.dup2, 1) := by decide +kernel
theorem dX11_fitsAll_73 : decode cX11_fitsAll 73 = .ok (.iaload, 1) := by decide +kernel
theorem dX11_fitsAll_74 : decode cX11_fitsAll 74 = .ok (.iconst 1, 1) := by decide +kernel
theorem dX11_fitsAll_75 : decode cX11_fitsAll 75 = .ok (.iadd, 1) := by decide +kernel
theorem dX11_fitsAll_76 : decode cX11_fitsAll 76 = .ok (.iastore, 1) := by decide +kernel
theorem dX11_fitsAll_77 : decode cX11_fitsAll 77 = .ok (.aload_n 0, 1) := by decide +kernel
theorem dX11_fitsAll_78 : decode cX11_fitsAll 78 = .ok (.getfield 37, 3) := by decide +kernel
theorem dX11_fitsAll_81 : decode cX11_fitsAll 81 = .ok (.aload_n 0, 1) := by decide +kernel
theorem dX11_fitsAll_82 : decode cX11_fitsAll 82 = .ok (.iload 4, 2) := by decide +kernel
theorem dX11_fitsAll_84 : decode cX11_fitsAll 84 = .ok (.iconst 0, 1) := by decide +kernel
theorem dX11_fitsAll_85 : decode cX11_fitsAll 85 = .ok (.invokevirtual 215, 3) := by decide +kernel
theorem dX11_fitsAll_88 : decode cX11_fitsAll 88 = .ok (.iaload, 1) := by decide +kernel
theorem dX11_fitsAll_89 : decode cX11_fitsAll 89 = .ok (.aload_n 0, 1) := by decide +kernel
theorem dX11_fitsAll_90 : decode cX11_fitsAll 90 = .ok (.aload_n 0, 1) := by decide +kernel
theorem dX11_fitsAll_91 : decode cX11_fitsAll 91 = .ok (.iload 4, 2) := by decide +kernel
theorem dX11_fitsAll_93 : decode cX11_fitsAll 93 = .ok (.iconst 0, 1) := by decide +kernel
theorem dX11_fitsAll_94 : decode cX11_fitsAll 94 = .ok (.invokevirtual 215, 3) := by decide +kernel
theorem dX11_fitsAll_97 : decode cX11_fitsAll 97 = .ok (.iconst 2, 1) := by decide +kernel
theorem dX11_fitsAll_98 : decode cX11_fitsAll 98 = .ok (.invokevirtual 94, 3) := by decide +kernel
theorem dX11_fitsAll_101 : decode cX11_fitsAll 101 = .ok (.if_icmp .gt 7, 3) := by decide +kernel
theorem dX11_fitsAll_104 : decode cX11_fitsAll 104 = .ok (.iconst 1, 1) := by decide +kernel
theorem dX11_fitsAll_105 : decode cX11_fitsAll 105 = .ok (.goto 4, 3) := by decide +kernel
theorem dX11_fitsAll_108 : decode cX11_fitsAll 108 = .ok (.iconst 0, 1) := by decide +kernel
theorem dX11_fitsAll_109 : decode cX11_fitsAll 109 = .ok (.istore_n 3, 1) := by decide +kernel
theorem dX11_fitsAll_110 : decode cX11_fitsAll 110 = .ok (.iinc 4 1, 3) := by decide +kernel
theorem dX11_fitsAll_113 : decode cX11_fitsAll 113 = .ok (.goto (-88), 3) := by decide +kernel
theorem dX11_fitsAll_116 : decode cX11_fitsAll 116 = .ok (.iload_n 3, 1) := by decide +kernel
theorem dX11_fitsAll_117 : decode cX11_fitsAll 117 = .ok (.ireturn, 1) := by decide +kernel
def VX11_fitsAll_110 (d : Nat) (c25 : Nat → Int → Int → Int → Int → MS → Prop) (Q : Out → MS → Prop) (x0 : Nat) (x1 : Int) (x2 : Int) (x3 : Int) (x4 : Int) (S : MS) : Prop :=
  c25 x0 x1 x2 x3 (x4 + 1) S
theorem JX11_fitsAll_110 {d : Nat} {c25 : Nat → Int → Int → Int → Int → MS → Prop} {S0 : MS} {Q : Out → MS → Prop} (hc25 : ∀ (x0 : Nat) (x1 : Int) (x2 : Int) (x3 : Int) (x4 : Int) (S : MS), c25 x0 x1 x2 x3 x4 S → Jw FinM RX11 cX11_fitsAll 5 (some .boolean) [] yX11_fitsAll (d + 1) S0 S 25 [(0, vA x0), (1, vI x1), (2, vI x2), (3, vI x3), (4, vI x4)] [] Q) (x0 : Nat) (x1 : Int) (x2 : Int) (x3 : Int) (x4 : Int) (S : MS) (h : VX11_fitsAll_110 d c25 Q x0 x1 x2 x3 x4 S) : Jw FinM RX11 cX11_fitsAll 5 (some .boolean) [] yX11_fitsAll (d + 1) S0 S 110 [(0, vA x0), (1, vI x1), (2, vI x2), (3, vI x3), (4, vI x4)] [] Q :=
  j_iinc 4 (lv2 := [(4, vI (x4 + 1)), (0, vA x0), (1, vI x1), (2, vI x2), (3, vI x3)]) dX11_fitsAll_110 rfl (by decide) rfl (j_goto (tgt := 25) dX11_fitsAll_113 (by decide) (j_sub [1, 2, 3, 4, 0] rfl (hc25 _ _ _ _ _ _ h)))
def VX11_fitsAll_109 (d : Nat) (c25 : Nat → Int → Int → Int → Int → MS → Prop) (Q : Out → MS → Prop) (x0 : Nat) (x1 : Int) (x2 : Int) (x4 : Int) (t0 : Int) (S : MS) : Prop :=
  VX11_fitsAll_110 d c25 Q x0 x1 x2 t0 x4 S
theorem JX11_fitsAll_109 {d : Nat} {c25 : Nat → Int → Int → Int → Int → MS → Prop} {S0 : MS} {Q : Out → MS → Prop} (hc25 : ∀ (x0 : Nat) (x1 : Int) (x2 : Int) (x3 : Int) (x4 : Int) (S : MS), c25 x0 x1 x2 x3 x4 S → Jw FinM RX11 cX11_fitsAll 5 (some .boolean) [] yX11_fitsAll (d + 1) S0 S 25 [(0, vA x0), (1, vI x1), (2, vI x2), (3, vI x3), (4, vI x4)] [] Q) (x0 : Nat) (x1 : Int) (x2 : Int) (x4 : Int) (t0 : Int) (S : MS) (h : VX11_fitsAll_109 d c25 Q x0 x1 x2 x4 t0 S) : Jw FinM RX11 cX11_fitsAll 5 (some .boolean) [] yX11_fitsAll (d + 1) S0 S 109 [(0, vA x0), (1, vI x1), (2, vI x2), (4, vI x4)] [vI t0] Q :=
  j_istore_n (lv2 := [(3, vI t0), (0, vA x0), (1, vI x1), (2, vI x2), (4, vI x4)]) dX11_fitsAll_109 (by decide) rfl (j_sub [1, 2, 3, 0, 4] rfl (JX11_fitsAll_110 hc25 _ _ _ _ _ _ h))
def VX11_fitsAll_116 (d : Nat) (Q : Out → MS → Prop) (x3 : Int) (S : MS) : Prop :=
  B01 x3 ∧ Q (.inl (some (vI x3))) S
theorem JX11_fitsAll_116 {d : Nat} {S0 : MS} {Q : Out → MS → Prop} (x3 : Int) (S : MS) (h : VX11_fitsAll_116 d Q x3 S) : Jw FinM RX11 cX11_fitsAll 5 (some .boolean) [] yX11_fitsAll (d + 1) S0 S 116 [(3, vI x3)] [] Q :=
  j_iload_n 0 dX11_fitsAll_116 rfl (j_zret rfl dX11_fitsAll_117 h)
def VX11_fitsAll_25 (d : Nat) (Q : Out → MS → Prop) : Nat → Nat → Int → Int → Int → Int → MS → Prop
  | 0, _, _, _, _, _, _ => False
  | n + 1, x0, x1, x2, x3, x4, S => S.K x0 = 11 ∧ Mw hX11_notes yX11_notes d [vA x0] S (oI (fun r1 S1 => (R32 x4 ∧ R32 r1) ∧ ((r1 ≤ x4) → VX11_fitsAll_116 d Q x3 S1) ∧ (¬ (r1 ≤ x4) → R32 x3 ∧ ((x3 = 0) → VX11_fitsAll_116 d Q x3 S1) ∧ (¬ (x3 = 0) → (R32 (iAnd (iShr x2 x4) 1) ∧ R32 (1 : Int)) ∧ (((iAnd (iShr x2 x4) 1) = (1 : Int)) → VX11_fitsAll_110 d (VX11_fitsAll_25 d Q n) Q x0 x1 x2 x3 x4 S1) ∧ (¬ ((iAnd (iShr x2 x4) 1) = (1 : Int)) → S1.K x0 = 11 ∧ Mw hX11_fitsNote yX11_fitsNote d [vA x0, vI x1, vI x4] S1 (oI (fun r2 S2 => R32 r2 ∧ ((r2 = 0) → S2.K x0 = 11 ∧ ∃ b3, S2.R x0 15 = some b3 ∧ (S2.K x0 = 11 ∧ Mw hX11_ofNote yX11_ofNote d [vA x0, vI x4, vI 0] S2 (oI (fun r4 S4 => (S4.K b3 = 13 ∧ 0 ≤ r4 ∧ r4 < S4.N b3) ∧ ((S4.K b3 = 13 ∧ 0 ≤ r4 ∧ r4 < S4.N b3) ∧ ((S4.setI b3 (r4).toNat ((S4.I b3 (r4).toNat) + 1)).K x0 = 11 ∧ ∃ b5, (S4.setI b3 (r4).toNat ((S4.I b3 (r4).toNat) + 1)).R x0 15 = some b5 ∧ ((S4.setI b3 (r4).toNat ((S4.I b3 (r4).toNat) + 1)).K x0 = 11 ∧ Mw hX11_ofNote yX11_ofNote d [vA x0, vI x4, vI 0] (S4.setI b3 (r4).toNat ((S4.I b3 (r4).toNat) + 1)) (oI (fun r6 S6 => (S6.K b5 = 13 ∧ 0 ≤ r6 ∧ r6 < S6.N b5) ∧ (S6.K x0 = 11 ∧ Mw hX11_ofNote yX11_ofNote d [vA x0, vI x4, vI 0] S6 (oI (fun r7 S7 => S7.K x0 = 11 ∧ Mw hX11_ofScale yX11_ofScale d [vA x0, vI r7, vI 2] S7 (oI (fun r8 S8 => (R32 (S6.I b5 (r6).toNat) ∧ R32 r8) ∧ ((r8 < (S6.I b5 (r6).toNat)) → VX11_fitsAll_109 d (VX11_fitsAll_25 d Q n) Q x0 x1 x2 x4 0 S8) ∧ (¬ (r8 < (S6.I b5 (r6).toNat)) → VX11_fitsAll_109 d (VX11_fitsAll_25 d Q n) Q x0 x1 x2 x4 1 S8))))))))))))))) ∧ (¬ (r2 = 0) → VX11_fitsAll_110 d (VX11_fitsAll_25 d Q n) Q x0 x1 x2 x3 x4 S2))))))))
theorem JX11_fitsAll_25 {d : Nat} {S0 : MS} {Q : Out → MS → Prop} : ∀ (n : Nat) (x0 : Nat) (x1 : Int) (x2 : Int) (x3 : Int) (x4 : Int) (S : MS), VX11_fitsAll_25 d Q n x0 x1 x2 x3 x4 S → Jw FinM RX11 cX11_fitsAll 5 (some .boolean) [] yX11_fitsAll (d + 1) S0 S 25 [(0, vA x0), (1, vI x1), (2, vI x2), (3, vI x3), (4, vI x4)] [] Q := by
  intro n
  induction n with
  | zero => intro x0 x1 x2 x3 x4 S h; exact h.elim
  | succ n ih =>
    intro x0 x1 x2 x3 x4 S h
    exact j_iload 4 dX11_fitsAll_25 rfl (j_aload_n 0 dX11_fitsAll_27 rfl (j_callV (rest := [vI x4]) 11 [] k_RX11_91 ⟨w_7_202, p_4_8⟩ ⟨_, _, rfl⟩ (by decide) rfl rfl (Nat.le_of_ble_eq_true rfl) dX11_fitsAll_28 h (kI (fun r1 S1 h => j_icmp_ge (tgt := 116) dX11_fitsAll_31 (by decide) h (fun h => j_sub [3] rfl (JX11_fitsAll_116 _ _ h)) (fun h => j_iload_n 3 dX11_fitsAll_34 rfl (j_if_eq (tgt := 116) dX11_fitsAll_35 (by decide) h (fun h => j_sub [3] rfl (JX11_fitsAll_116 _ _ h)) (fun h => j_iload_n 2 dX11_fitsAll_38 rfl (j_iload 4 dX11_fitsAll_39 rfl (j_ishr dX11_fitsAll_41 (j_iconst dX11_fitsAll_42 (j_iand dX11_fitsAll_43 (j_iconst dX11_fitsAll_44 (j_icmp_eq (tgt := 110) dX11_fitsAll_45 (by decide) h (fun h => JX11_fitsAll_110 ih _ _ _ _ _ _ h) (fun h => j_aload_n 0 dX11_fitsAll_48 rfl (j_iload_n 1 dX11_fitsAll_49 rfl (j_iload 4 dX11_fitsAll_50 rfl (j_callV (rest := []) 11 [vI x1, vI x4] k_RX11_238 ⟨w_8_58, p_5_8⟩ ⟨_, _, rfl⟩ (by decide) rfl rfl (Nat.le_of_ble_eq_true rfl) dX11_fitsAll_52 h (kI (fun r2 S2 h => j_if_eq (tgt := 61) dX11_fitsAll_55 (by decide) h (fun h => j_aload_n 0 dX11_fitsAll_61 rfl (j_getR 11 15 f_RX11_37 dX11_fitsAll_62 h (fun b3 h => j_aload_n 0 dX11_fitsAll_65 rfl (j_iload 4 dX11_fitsAll_66 rfl (j_iconst dX11_fitsAll_68 (j_callV (rest := [vA b3]) 11 [vI x4, vI 0] k_RX11_215 ⟨w_8_26, p_5_2⟩ ⟨_, _, rfl⟩ (by decide) rfl rfl (Nat.le_of_ble_eq_true rfl) dX11_fitsAll_69 h (kI (fun r4 S4 h => j_dup2 rfl rfl dX11_fitsAll_72 (j_iald dX11_fitsAll_73 h (fun h => j_iconst dX11_fitsAll_74 (j_iadd dX11_fitsAll_75 (j_iast dX11_fitsAll_76 h (fun h => j_aload_n 0 dX11_fitsAll_77 rfl (j_getR 11 15 f_RX11_37 dX11_fitsAll_78 h (fun b5 h => j_aload_n 0 dX11_fitsAll_81 rfl (j_iload 4 dX11_fitsAll_82 rfl (j_iconst dX11_fitsAll_84 (j_callV (rest := [vA b5]) 11 [vI x4, vI 0] k_RX11_215 ⟨w_8_26, p_5_2⟩ ⟨_, _, rfl⟩ (by decide) rfl rfl (Nat.le_of_ble_eq_true rfl) dX11_fitsAll_85 h (kI (fun r6 S6 h => j_iald dX11_fitsAll_88 h (fun h => j_aload_n 0 dX11_fitsAll_89 rfl (j_aload_n 0 dX11_fitsAll_90 rfl (j_iload 4 dX11_fitsAll_91 rfl (j_iconst dX11_fitsAll_93 (j_callV (rest := [vA x0, vI (S6.I b5 (r6).toNat)]) 11 [vI x4, vI 0] k_RX11_215 ⟨w_8_26, p_5_2⟩ ⟨_, _, rfl⟩ (by decide) rfl rfl (Nat.le_of_ble_eq_true rfl) dX11_fitsAll_94 h (kI (fun r7 S7 h => j_iconst dX11_fitsAll_97 (j_callV (rest := [vI (S6.I b5 (r6).toNat)]) 11 [vI r7, vI 2] k_RX11_94 ⟨w_7_239, p_4_14⟩ ⟨_, _, rfl⟩ (by decide) rfl rfl (Nat.le_of_ble_eq_true rfl) dX11_fitsAll_98 h (kI (fun r8 S8 h => j_icmp_gt (tgt := 108) dX11_fitsAll_101 (by decide) h (fun h => j_iconst dX11_fitsAll_108 (j_sub [0, 1, 2, 4] rfl (JX11_fitsAll_109 ih _ _ _ _ _ _ h))) (fun h => j_iconst dX11_fitsAll_104 (j_goto (tgt := 109) dX11_fitsAll_105 (by decide) (j_sub [0, 1, 2, 4] rfl (JX11_fitsAll_109 ih _ _ _ _ _ _ h)))))) (fun _ _ h => h.elim)))) (fun _ _ h => h.elim)))))))) (fun _ _ h => h.elim))))))))))))) (fun _ _ h => h.elim))))))) (fun h => j_goto (tgt := 110) dX11_fitsAll_58 (by decide) (JX11_fitsAll_110 ih _ _ _ _ _ _ h)))) (fun _ _ h => h.elim)))))))))))))))) (fun _ _ h => h.elim)))
def VX11_fitsAll_2 (d : Nat) (Q : Out → MS → Prop) : Nat → Nat → Int → Int → Int → MS → Prop
  | 0, _, _, _, _, _ => False
  | n + 1, x0, x1, x2, x3, S => (R32 x3 ∧ R32 (4 : Int)) ∧ (((4 : Int) ≤ x3) → ∃ m, VX11_fitsAll_25 d Q m x0 x1 x2 1 0 S) ∧ (¬ ((4 : Int) ≤ x3) → S.K x0 = 11 ∧ ∃ b1, S.R x0 15 = some b1 ∧ ((S.K b1 = 13 ∧ 0 ≤ x3 ∧ x3 < S.N b1) ∧ ((VX11_fitsAll_2 d Q n) x0 x1 x2 (x3 + 1) (S.setI b1 (x3).toNat 0))))
theorem JX11_fitsAll_2 {d : Nat} {S0 : MS} {Q : Out → MS → Prop} : ∀ (n : Nat) (x0 : Nat) (x1 : Int) (x2 : Int) (x3 : Int) (S : MS), VX11_fitsAll_2 d Q n x0 x1 x2 x3 S → Jw FinM RX11 cX11_fitsAll 5 (some .boolean) [] yX11_fitsAll (d + 1) S0 S 2 [(0, vA x0), (1, vI x1), (2, vI x2), (3, vI x3)] [] Q := by
  intro n
  induction n with
  | zero => intro x0 x1 x2 x3 S h; exact h.elim
  | succ n ih =>
    intro x0 x1 x2 x3 S h
    exact j_iload_n 3 dX11_fitsAll_2 rfl (j_iconst dX11_fitsAll_3 (j_icmp_ge (tgt := 20) dX11_fitsAll_4 (by decide) h (fun h => j_iconst dX11_fitsAll_20 (j_istore_n (lv2 := [(3, vI 1), (0, vA x0), (1, vI x1), (2, vI x2)]) dX11_fitsAll_21 (by decide) rfl (j_iconst dX11_fitsAll_22 (j_istore (lv2 := [(4, vI 0), (3, vI 1), (0, vA x0), (1, vI x1), (2, vI x2)]) dX11_fitsAll_23 (by decide) rfl (Exists.elim h (fun m h => j_sub [2, 3, 4, 1, 0] rfl (JX11_fitsAll_25 m _ _ _ _ _ _ h))))))) (fun h => j_aload_n 0 dX11_fitsAll_7 rfl (j_getR 11 15 f_RX11_37 dX11_fitsAll_8 h (fun b1 h => j_iload_n 3 dX11_fitsAll_11 rfl (j_iconst dX11_fitsAll_12 (j_iast dX11_fitsAll_13 h (fun h => j_iinc 3 (lv2 := [(3, vI (x3 + 1)), (0, vA x0), (1, vI x1), (2, vI x2)]) dX11_fitsAll_14 rfl (by decide) rfl (j_goto (tgt := 2) dX11_fitsAll_17 (by decide) (j_sub [1, 2, 3, 0] rfl (ih _ _ _ _ _ h)))))))))))
def VX11_fitsAll_0 (d : Nat) (Q : Out → MS → Prop) (x0 : Nat) (x1 : Int) (x2 : Int) (S : MS) : Prop :=
  ∃ m, VX11_fitsAll_2 d Q m x0 x1 x2 0 S
theorem JX11_fitsAll_0 {d : Nat} {S0 : MS} {Q : Out → MS → Prop} (x0 : Nat) (x1 : Int) (x2 : Int) (S : MS) (h : VX11_fitsAll_0 d Q x0 x1 x2 S) : Jw FinM RX11 cX11_fitsAll 5 (some .boolean) [] yX11_fitsAll (d + 1) S0 S 0 [(0, vA x0), (1, vI x1), (2, vI x2)] [] Q :=
  j_iconst dX11_fitsAll_0 (j_istore_n (lv2 := [(3, vI 0), (0, vA x0), (1, vI x1), (2, vI x2)]) dX11_fitsAll_1 (by decide) rfl (Exists.elim h (fun m h => j_sub [1, 2, 3, 0] rfl (JX11_fitsAll_2 m _ _ _ _ _ h))))
theorem MX11_fitsAll {d : Nat} {x0 : Nat} {x1 : Int} {x2 : Int} {S : MS} {Q : Out → MS → Prop} (h : VX11_fitsAll_0 d Q x0 x1 x2 S) : Mw hX11_fitsAll yX11_fitsAll (d + 1) [vA x0, vI x1, vI x2] S Q := Mw.ofJ (by decide) (Nat.le_of_ble_eq_true rfl) (JX11_fitsAll_0 _ _ _ S h)
theorem dX11_rowAt_0 : decode cX11_rowAt 0 = .ok (.aload_n 0, 1) := by decide +kernel
theorem dX11_rowAt_1 : decode cX11_rowAt 1 = .ok (.getfield 41, 3) := by decide +kernel
theorem dX11_rowAt_4 : decode cX11_rowAt 4 = .ok (.sipush 5040, 3) := by decide +kernel
theorem dX11_rowAt_7 : decode cX11_rowAt 7 = .ok (.iload_n 1, 1) := by decide +kernel
theorem dX11_rowAt_8 : decode cX11_rowAt 8 = .ok (.imul, 1) := by decide +kernel
theorem dX11_rowAt_9 : decode cX11_rowAt 9 = .ok (.iload_n 2, 1) := by decide +kernel
theorem dX11_rowAt_10 : decode cX11_rowAt 10 = .ok (.iadd, 1) := by decide +kernel
theorem dX11_rowAt_11 : decode cX11_rowAt 11 = .ok (.saload, 1) := by decide +kernel
theorem dX11_rowAt_12 : decode cX11_rowAt 12 = .ok (.ireturn, 1) := by decide +kernel
def VX11_rowAt_0 (d : Nat) (Q : Out → MS → Prop) (x0 : Nat) (x1 : Int) (x2 : Int) (S : MS) : Prop :=
  S.K x0 = 11 ∧ ∃ b1, S.R x0 16 = some b1 ∧ ((S.K b1 = 15 ∧ 0 ≤ ((5040 * x1) + x2) ∧ ((5040 * x1) + x2) < S.N b1) ∧ (Q (.inl (some (vI (S.I b1 (((5040 * x1) + x2)).toNat)))) S))
theorem JX11_rowAt_0 {d : Nat} {S0 : MS} {Q : Out → MS → Prop} (x0 : Nat) (x1 : Int) (x2 : Int) (S : MS) (h : VX11_rowAt_0 d Q x0 x1 x2 S) : Jw FinM RX11 cX11_rowAt 3 (some .int) [] yX11_rowAt (d + 1) S0 S 0 [(0, vA x0), (1, vI x1), (2, vI x2)] [] Q :=
  j_aload_n 0 dX11_rowAt_0 rfl (j_getR 11 16 f_RX11_41 dX11_rowAt_1 h (fun b1 h => j_sipush dX11_rowAt_4 rfl (j_iload_n 1 dX11_rowAt_7 rfl (j_imul dX11_rowAt_8 (j_iload_n 2 dX11_rowAt_9 rfl (j_iadd dX11_rowAt_10 (j_sald dX11_rowAt_11 h (fun h => j_iret rfl dX11_rowAt_12 h))))))))
theorem MX11_rowAt {d : Nat} {x0 : Nat} {x1 : Int} {x2 : Int} {S : MS} {Q : Out → MS → Prop} (h : VX11_rowAt_0 d Q x0 x1 x2 S) : Mw hX11_rowAt yX11_rowAt (d + 1) [vA x0, vI x1, vI x2] S Q := Mw.ofJ (by decide) (Nat.le_of_ble_eq_true rfl) (JX11_rowAt_0 _ _ _ S h)
theorem dX11_leaves_0 : decode cX11_leaves 0 = .ok (.aload_n 0, 1) := by decide +kernel
theorem dX11_leaves_1 : decode cX11_leaves 1 = .ok (.invokevirtual 241, 3) := by decide +kernel
theorem dX11_leaves_4 : decode cX11_leaves 4 = .ok (.aload_n 0, 1) := by decide +kernel
theorem dX11_leaves_5 : decode cX11_leaves 5 = .ok (.getfield 45, 3) := by decide +kernel
theorem dX11_leaves_8 : decode cX11_leaves 8 = .ok (.iconst 0, 1) := by decide +kernel
theorem dX11_leaves_9 : decode cX11_leaves 9 = .ok (.iconst 0, 1) := by decide +kernel
theorem dX11_leaves_10 : decode cX11_leaves 10 = .ok (.iastore, 1) := by decide +kernel
theorem dX11_leaves_11 : decode cX11_leaves 11 = .ok (.iconst 0, 1) := by decide +kernel
theorem dX11_leaves_12 : decode cX11_leaves 12 = .ok (.istore_n 1, 1) := by decide +kernel
theorem dX11_leaves_13 : decode cX11_leaves 13 = .ok (.iload_n 1, 1) := by decide +kernel
theorem dX11_leaves_14 : decode cX11_leaves 14 = .ok (.aload_n 0, 1) := by decide +kernel
theorem dX11_leaves_15 : decode cX11_leaves 15 = .ok (.getfield 225, 3) := by decide +kernel
theorem dX11_leaves_18 : decode cX11_leaves 18 = .ok (.if_icmp .ge 44, 3) := by decide +kernel
theorem dX11_leaves_21 : decode cX11_leaves 21 = .ok (.aload_n 0, 1) := by decide +kernel
theorem dX11_leaves_22 : decode cX11_leaves 22 = .ok (.iload_n 1, 1) := by decide +kernel
theorem dX11_leaves_23 : decode cX11_leaves 23 = .ok (.iconst 0, 1) := by decide +kernel
theorem dX11_leaves_24 : decode cX11_leaves 24 = .ok (.invokevirtual 244, 3) := by decide +kernel
theorem dX11_leaves_27 : decode cX11_leaves 27 = .ok (.ifCond .ne 6, 3) := by decide +kernel
theorem dX11_leaves_30 : decode cX11_leaves 30 = .ok (.goto 26, 3) := by decide +kernel
theorem dX11_leaves_33 : decode cX11_leaves 33 = .ok (.aload_n 0, 1) := by decide +kernel
theorem dX11_leaves_34 : decode cX11_leaves 34 = .ok (.getfield 41, 3) := by decide +kernel
theorem dX11_leaves_37 : decode cX11_leaves 37 = .ok (.aload_n 0, 1) := by decide +kernel
theorem dX11_leaves_38 : decode cX11_leaves 38 = .ok (.getfield 45, 3) := by decide +kernel
theorem dX11_leaves_41 : decode cX11_leaves 41 = .ok (.iconst 0, 1) := by decide +kernel
theorem dX11_leaves_42 : decode cX11_leaves 42 = .ok (.iaload, 1) := by decide +kernel
theorem dX11_leaves_43 : decode cX11_leaves 43 = .ok (.iload_n 1, 1) := by decide +kernel
theorem dX11_leaves_44 : decode cX11_leaves 44 = .ok (.i2s, 1) := by decide +kernel
theorem dX11_leaves_45 : decode cX11_leaves 45 = .ok (.sastore, 1) := by decide +kernel
theorem dX11_leaves_46 : decode cX11_leaves 46 = .ok (.aload_n 0, 1) := by decide +kernel
theorem dX11_leaves_47 : decode cX11_leaves 47 = .ok (.getfield 45, 3) := by decide +kernel
theorem dX11_leaves_50 : decode cX11_leaves 50 = .ok (.iconst 0, 1) := by decide +kernel
theorem dX11_leaves_51 : decode cX11_leaves 51 = .ok (.dup2, 1) := by decide +kernel
theorem dX11_leaves_52 : decode cX11_leaves 52 = .ok (.iaload, 1) := by decide +kernel
theorem dX11_leaves_53 : decode cX11_leaves 53 = .ok (.iconst 1, 1) := by decide +kernel
theorem dX11_leaves_54 : decode cX11_leaves 54 = .ok (.iadd, 1) := by decide +kernel
theorem dX11_leaves_55 : decode cX11_leaves 55 = .ok (.iastore, 1) := by decide +kernel
theorem dX11_leaves_56 : decode cX11_leaves 56 = .ok (.iinc 1 1, 3) := by decide +kernel
theorem dX11_leaves_59 : decode cX11_leaves 59 = .ok (.goto (-46), 3) := by decide +kernel
theorem dX11_leaves_62 : decode cX11_leaves 62 = .ok (.return_, 1) := by decide +kernel
def VX11_leaves_56 (d : Nat) (c13 : Nat → Int → MS → Prop) (Q : Out → MS → Prop) (x0 : Nat) (x1 : Int) (S : MS) : Prop :=
  c13 x0 (x1 + 1) S
theorem JX11_leaves_56 {d : Nat} {c13 : Nat → Int → MS → Prop} {S0 : MS} {Q : Out → MS → Prop} (hc13 : ∀ (x0 : Nat) (x1 : Int) (S : MS), c13 x0 x1 S → Jw FinM RX11 cX11_leaves 2 none [] yX11_leaves (d + 1) S0 S 13 [(0, vA x0), (1, vI x1)] [] Q) (x0 : Nat) (x1 : Int) (S : MS) (h : VX11_leaves_56 d c13 Q x0 x1 S) : Jw FinM RX11 cX11_leaves 2 none [] yX11_leaves (d + 1) S0 S 56 [(0, vA x0), (1, vI x1)] [] Q :=
  j_iinc 1 (lv2 := [(1, vI (x1 + 1)), (0, vA x0)]) dX11_leaves_56 rfl (by decide) rfl (j_goto (tgt := 13) dX11_leaves_59 (by decide) (j_sub [1, 0] rfl (hc13 _ _ _ h)))
def VX11_leaves_13 (d : Nat) (Q : Out → MS → Prop) : Nat → Nat → Int → MS → Prop
  | 0, _, _, _ => False
  | n + 1, x0, x1, S => S.K x0 = 11 ∧ ((R32 x1 ∧ R32 (S.I x0 13)) ∧ (((S.I x0 13) ≤ x1) → Q (.inl none) S) ∧ (¬ ((S.I x0 13) ≤ x1) → S.K x0 = 11 ∧ Mw hX11_fitsAll yX11_fitsAll d [vA x0, vI x1, vI 0] S (oI (fun r1 S1 => R32 r1 ∧ (¬ (r1 = 0) → S1.K x0 = 11 ∧ ∃ b2, S1.R x0 16 = some b2 ∧ (S1.K x0 = 11 ∧ ∃ b3, S1.R x0 17 = some b3 ∧ ((S1.K b3 = 13 ∧ 0 ≤ (0 : Int) ∧ (0 : Int) < S1.N b3) ∧ ((S1.K b2 = 15 ∧ 0 ≤ (S1.I b3 ((0 : Int)).toNat) ∧ (S1.I b3 ((0 : Int)).toNat) < S1.N b2) ∧ ((S1.setI b2 ((S1.I b3 ((0 : Int)).toNat)).toNat (i2S (i2S x1))).K x0 = 11 ∧ ∃ b4, (S1.setI b2 ((S1.I b3 ((0 : Int)).toNat)).toNat (i2S (i2S x1))).R x0 17 = some b4 ∧ (((S1.setI b2 ((S1.I b3 ((0 : Int)).toNat)).toNat (i2S (i2S x1))).K b4 = 13 ∧ 0 ≤ (0 : Int) ∧ (0 : Int) < (S1.setI b2 ((S1.I b3 ((0 : Int)).toNat)).toNat (i2S (i2S x1))).N b4) ∧ (((S1.setI b2 ((S1.I b3 ((0 : Int)).toNat)).toNat (i2S (i2S x1))).K b4 = 13 ∧ 0 ≤ (0 : Int) ∧ (0 : Int) < (S1.setI b2 ((S1.I b3 ((0 : Int)).toNat)).toNat (i2S (i2S x1))).N b4) ∧ (∀ S5 : MS, S5 = (S1.setI b2 ((S1.I b3 ((0 : Int)).toNat)).toNat (i2S (i2S x1))).setI b4 ((0 : Int)).toNat (((S1.setI b2 ((S1.I b3 ((0 : Int)).toNat)).toNat (i2S (i2S x1))).I b4 ((0 : Int)).toNat) + 1) → VX11_leaves_56 d (VX11_leaves_13 d Q n) Q x0 x1 S5)))))))) ∧ ((r1 = 0) → VX11_leaves_56 d (VX11_leaves_13 d Q n) Q x0 x1 S1)))))
theorem JX11_leaves_13 {d : Nat} {S0 : MS} {Q : Out → MS → Prop} : ∀ (n : Nat) (x0 : Nat) (x1 : Int) (S : MS), VX11_leaves_13 d Q n x0 x1 S → Jw FinM RX11 cX11_leaves 2 none [] yX11_leaves (d + 1) S0 S 13 [(0, vA x0), (1, vI x1)] [] Q := by
  intro n
  induction n with
  | zero => intro x0 x1 S h; exact h.elim
  | succ n ih =>
    intro x0 x1 S h
    exact j_iload_n 1 dX11_leaves_13 rfl (j_aload_n 0 dX11_leaves_14 rfl (j_getI 11 13 f_RX11_225 dX11_leaves_15 h (fun h => j_icmp_ge (tgt := 62) dX11_leaves_18 (by decide) h (fun h => j_vret rfl dX11_leaves_62 h) (fun h => j_aload_n 0 dX11_leaves_21 rfl (j_iload_n 1 dX11_leaves_22 rfl (j_iconst dX11_leaves_23 (j_callV (rest := []) 11 [vI x1, vI 0] k_RX11_244 ⟨w_8_54, p_5_7⟩ ⟨_, _, rfl⟩ (by decide) rfl rfl (Nat.le_of_ble_eq_true rfl) dX11_leaves_24 h (kI (fun r1 S1 h => j_if_ne (tgt := 33) dX11_leaves_27 (by decide) h (fun h => j_aload_n 0 dX11_leaves_33 rfl (j_getR 11 16 f_RX11_41 dX11_leaves_34 h (fun b2 h => j_aload_n 0 dX11_leaves_37 rfl (j_getR 11 17 f_RX11_45 dX11_leaves_38 h (fun b3 h => j_iconst dX11_leaves_41 (j_iald dX11_leaves_42 h (fun h => j_iload_n 1 dX11_leaves_43 rfl (j_i2s dX11_leaves_44 (j_sast dX11_leaves_45 h (fun h => j_aload_n 0 dX11_leaves_46 rfl (j_getR 11 17 f_RX11_45 dX11_leaves_47 h (fun b4 h => j_iconst dX11_leaves_50 (j_dup2 rfl rfl dX11_leaves_51 (j_iald dX11_leaves_52 h (fun h => j_iconst dX11_leaves_53 (j_iadd dX11_leaves_54 (j_iast dX11_leaves_55 h (fun h => j_bind h (fun S5 h => JX11_leaves_56 ih _ _ _ h))))))))))))))))))) (fun h => j_goto (tgt := 56) dX11_leaves_30 (by decide) (JX11_leaves_56 ih _ _ _ h)))) (fun _ _ h => h.elim))))))))
def VX11_leaves_0 (d : Nat) (Q : Out → MS → Prop) (x0 : Nat) (S : MS) : Prop :=
  S.K x0 = 11 ∧ Mw hX11_fills yX11_fills d [vA x0] S (oV (fun S1 => S1.K x0 = 11 ∧ ∃ b2, S1.R x0 17 = some b2 ∧ ((S1.K b2 = 13 ∧ 0 ≤ (0 : Int) ∧ (0 : Int) < S1.N b2) ∧ (∃ m, VX11_leaves_13 d Q m x0 0 (S1.setI b2 ((0 : Int)).toNat 0)))))
theorem JX11_leaves_0 {d : Nat} {S0 : MS} {Q : Out → MS → Prop} (x0 : Nat) (S : MS) (h : VX11_leaves_0 d Q x0 S) : Jw FinM RX11 cX11_leaves 2 none [] yX11_leaves (d + 1) S0 S 0 [(0, vA x0)] [] Q :=
  j_aload_n 0 dX11_leaves_0 rfl (j_callV (rest := []) 11 [] k_RX11_241 ⟨w_8_46, p_5_5⟩ ⟨_, _, rfl⟩ (by decide) rfl rfl (Nat.le_of_ble_eq_true rfl) dX11_leaves_1 h (kV (fun S1 h => j_aload_n 0 dX11_leaves_4 rfl (j_getR 11 17 f_RX11_45 dX11_leaves_5 h (fun b2 h => j_iconst dX11_leaves_8 (j_iconst dX11_leaves_9 (j_iast dX11_leaves_10 h (fun h => j_iconst dX11_leaves_11 (j_istore_n (lv2 := [(1, vI 0), (0, vA x0)]) dX11_leaves_12 (by decide) rfl (Exists.elim h (fun m h => j_sub [1, 0] rfl (JX11_leaves_13 m _ _ _ h))))))))))) (fun _ _ h => h.elim))
theorem MX11_leaves {d : Nat} {x0 : Nat} {S : MS} {Q : Out → MS → Prop} (h : VX11_leaves_0 d Q x0 S) : Mw hX11_leaves yX11_leaves (d + 1) [vA x0] S Q := Mw.ofJ (by decide) (Nat.le_of_ble_eq_true rfl) (JX11_leaves_0 _ S h)
theorem dX11_areMirrors_0 : decode cX11_areMirrors 0 = .ok (.iconst 1, 1) := by decide +kernel
theorem dX11_areMirrors_1 : decode cX11_areMirrors 1 = .ok (.istore_n 3, 1) := by decide +kernel
theorem dX11_areMirrors_2 : decode cX11_areMirrors 2 = .ok (.iconst 0, 1) := by decide +kernel
theorem dX11_areMirrors_3 : decode cX11_areMirrors 3 = .ok (.istore 4, 2) := by decide +kernel
theorem dX11_areMirrors_5 : decode cX11_areMirrors 5 = .ok (.iload 4, 2) := by decide +kernel
theorem dX11_areMirrors_7 : decode cX11_areMirrors 7 = .ok (.aload_n 0, 1) := by decide +kernel
theorem dX11_areMirrors_8 : decode cX11_areMirrors 8 = .ok (.getfield 222, 3) := by decide +kernel
theorem dX11_areMirrors_11 : decode cX11_areMirrors 11 = .ok (.if_icmp .ge 43, 3) := by decide +kernel
theorem dX11_areMirrors_14 : decode cX11_areMirrors 14 = .ok (.iload_n 3, 1) := by decide +kernel
theorem dX11_areMirrors_15 : decode cX11_areMirrors 15 = .ok (.ifCond .eq 31, 3) := by decide +kernel
theorem dX11_areMirrors_18 : decode cX11_areMirrors 18 = .ok (.aload_n 0, 1) := by decide +kernel
theorem dX11_areMirrors_19 : decode cX11_areMirrors 19 = .ok (.iload_n 1, 1) := by decide +kernel
theorem dX11_areMirrors_20 : decode cX11_areMirrors 20 = .ok (.iload 4, 2) := by decide +kernel
theorem dX11_areMirrors_22 : decode cX11_areMirrors 22 = .ok (.invokevirtual 231, 3) := by decide +kernel
theorem dX11_areMirrors_25 : decode cX11_areMirrors 25 = .ok (.aload_n 0, 1) := by decide +kernel
theorem dX11_areMirrors_26 : decode cX11_areMirrors 26 = .ok (.iload_n 2, 1) := by decide +kernel
theorem dX11_areMirrors_27 : decode cX11_areMirrors 27 = .ok (.aload_n 0, 1) := by decide +kernel
theorem dX11_areMirrors_28 : decode cX11_areMirrors 28 = .ok (.getfield 222, 3) := by decide +kernel
theorem dX11_areMirrors_31 : decode cX11_areMirrors 31 = .ok (.iconst 1, 1) := by decide +kernel
theorem dX11_areMirrors_32 : decode cX11_areMirrors 32 = .ok (.isub, 1) := by decide +kernel
theorem dX11_areMirrors_33 : decode cX11_areMirrors 33 = .ok (.iload 4, 2) := by decide +kernel
theorem dX11_areMirrors_35 : decode cX11_areMirrors 35 = .ok (.isub, 1) := by decide +kernel
theorem dX11_areMirrors_36 : decode cX11_areMirrors 36 = .ok (.invokevirtual 231, 3) := by decide +kernel
theorem dX11_areMirrors_39 : decode cX11_areMirrors 39 = .ok (.if_icmp .ne 7, 3) := by decide +kernel
theorem dX11_areMirrors_42 : decode cX11_areMirrors 42 = .ok (.iconst 1, 1) := by decide +kernel
theorem dX11_areMirrors_43 : decode cX11_areMirrors 43 = .ok (.goto 4, 3) := by decide +kernel
theorem dX11_areMirrors_46 : decode cX11_areMirrors 46 = .ok (.iconst 0, 1) := by decide +kernel
theorem dX11_areMirrors_47 : decode cX11_areMirrors 47 = .ok (.istore_n 3, 1) := by decide +kernel
theorem dX11_areMirrors_48 : decode cX11_areMirrors 48 = .ok (.iinc 4 1, 3) := by decide +kernel
theorem dX11_areMirrors_51 : decode cX11_areMirrors 51 = .ok (.goto (-46), 3) := by decide +kernel
theorem dX11_areMirrors_54 : decode cX11_areMirrors 54 = .ok (.iload_n 3, 1) := by decide +kernel
theorem dX11_areMirrors_55 : decode cX11_areMirrors 55 = .ok (.ireturn, 1) := by decide +kernel
def VX11_areMirrors_47 (d : Nat) (c5 : Nat → Int → Int → Int → Int → MS → Prop) (Q : Out → MS → Prop) (x0 : Nat) (x1 : Int) (x2 : Int) (x4 : Int) (t0 : Int) (S : MS) : Prop :=
  c5 x0 x1 x2 t0 (x4 + 1) S
theorem JX11_areMirrors_47 {d : Nat} {c5 : Nat → Int → Int → Int → Int → MS → Prop} {S0 : MS} {Q : Out → MS → Prop} (hc5 : ∀ (x0 : Nat) (x1 : Int) (x2 : Int) (x3 : Int) (x4 : Int) (S : MS), c5 x0 x1 x2 x3 x4 S → Jw FinM RX11 cX11_areMirrors 5 (some .boolean) [] yX11_areMirrors (d + 1) S0 S 5 [(0, vA x0), (1, vI x1), (2, vI x2), (3, vI x3), (4, vI x4)] [] Q) (x0 : Nat) (x1 : Int) (x2 : Int) (x4 : Int) (t0 : Int) (S : MS) (h : VX11_areMirrors_47 d c5 Q x0 x1 x2 x4 t0 S) : Jw FinM RX11 cX11_areMirrors 5 (some .boolean) [] yX11_areMirrors (d + 1) S0 S 47 [(0, vA x0), (1, vI x1), (2, vI x2), (4, vI x4)] [vI t0] Q :=
  j_istore_n (lv2 := [(3, vI t0), (0, vA x0), (1, vI x1), (2, vI x2), (4, vI x4)]) dX11_areMirrors_47 (by decide) rfl (j_iinc 4 (lv2 := [(4, vI (x4 + 1)), (3, vI t0), (0, vA x0), (1, vI x1), (2, vI x2)]) dX11_areMirrors_48 rfl (by decide) rfl (j_goto (tgt := 5) dX11_areMirrors_51 (by decide) (j_sub [2, 3, 4, 1, 0] rfl (hc5 _ _ _ _ _ _ h))))
def VX11_areMirrors_46 (d : Nat) (c5 : Nat → Int → Int → Int → Int → MS → Prop) (Q : Out → MS → Prop) (x0 : Nat) (x1 : Int) (x2 : Int) (x4 : Int) (S : MS) : Prop :=
  VX11_areMirrors_47 d c5 Q x0 x1 x2 x4 0 S
theorem JX11_areMirrors_46 {d : Nat} {c5 : Nat → Int → Int → Int → Int → MS → Prop} {S0 : MS} {Q : Out → MS → Prop} (hc5 : ∀ (x0 : Nat) (x1 : Int) (x2 : Int) (x3 : Int) (x4 : Int) (S : MS), c5 x0 x1 x2 x3 x4 S → Jw FinM RX11 cX11_areMirrors 5 (some .boolean) [] yX11_areMirrors (d + 1) S0 S 5 [(0, vA x0), (1, vI x1), (2, vI x2), (3, vI x3), (4, vI x4)] [] Q) (x0 : Nat) (x1 : Int) (x2 : Int) (x4 : Int) (S : MS) (h : VX11_areMirrors_46 d c5 Q x0 x1 x2 x4 S) : Jw FinM RX11 cX11_areMirrors 5 (some .boolean) [] yX11_areMirrors (d + 1) S0 S 46 [(0, vA x0), (1, vI x1), (2, vI x2), (4, vI x4)] [] Q :=
  j_iconst dX11_areMirrors_46 (JX11_areMirrors_47 hc5 _ _ _ _ _ _ h)
def VX11_areMirrors_5 (d : Nat) (Q : Out → MS → Prop) : Nat → Nat → Int → Int → Int → Int → MS → Prop
  | 0, _, _, _, _, _, _ => False
  | n + 1, x0, x1, x2, x3, x4, S => S.K x0 = 11 ∧ ((R32 x4 ∧ R32 (S.I x0 14)) ∧ (((S.I x0 14) ≤ x4) → B01 x3 ∧ Q (.inl (some (vI x3))) S) ∧ (¬ ((S.I x0 14) ≤ x4) → R32 x3 ∧ ((x3 = 0) → VX11_areMirrors_46 d (VX11_areMirrors_5 d Q n) Q x0 x1 x2 x4 S) ∧ (¬ (x3 = 0) → S.K x0 = 11 ∧ Mw hX11_at yX11_at d [vA x0, vI x1, vI x4] S (oI (fun r1 S1 => S1.K x0 = 11 ∧ (S1.K x0 = 11 ∧ Mw hX11_at yX11_at d [vA x0, vI x2, vI (((S1.I x0 14) - 1) - x4)] S1 (oI (fun r2 S2 => (R32 r1 ∧ R32 r2) ∧ (¬ (r1 = r2) → VX11_areMirrors_46 d (VX11_areMirrors_5 d Q n) Q x0 x1 x2 x4 S2) ∧ ((r1 = r2) → VX11_areMirrors_47 d (VX11_areMirrors_5 d Q n) Q x0 x1 x2 x4 1 S2)))))))))
theorem JX11_areMirrors_5 {d : Nat} {S0 : MS} {Q : Out → MS → Prop} : ∀ (n : Nat) (x0 : Nat) (x1 : Int) (x2 : Int) (x3 : Int) (x4 : Int) (S : MS), VX11_areMirrors_5 d Q n x0 x1 x2 x3 x4 S → Jw FinM RX11 cX11_areMirrors 5 (some .boolean) [] yX11_areMirrors (d + 1) S0 S 5 [(0, vA x0), (1, vI x1), (2, vI x2), (3, vI x3), (4, vI x4)] [] Q := by
  intro n
  induction n with
  | zero => intro x0 x1 x2 x3 x4 S h; exact h.elim
  | succ n ih =>
    intro x0 x1 x2 x3 x4 S h
    exact j_iload 4 dX11_areMirrors_5 rfl (j_aload_n 0 dX11_areMirrors_7 rfl (j_getI 11 14 f_RX11_222 dX11_areMirrors_8 h (fun h => j_icmp_ge (tgt := 54) dX11_areMirrors_11 (by decide) h (fun h => j_iload_n 3 dX11_areMirrors_54 rfl (j_zret rfl dX11_areMirrors_55 h)) (fun h => j_iload_n 3 dX11_areMirrors_14 rfl (j_if_eq (tgt := 46) dX11_areMirrors_15 (by decide) h (fun h => j_sub [0, 1, 2, 4] rfl (JX11_areMirrors_46 ih _ _ _ _ _ h)) (fun h => j_aload_n 0 dX11_areMirrors_18 rfl (j_iload_n 1 dX11_areMirrors_19 rfl (j_iload 4 dX11_areMirrors_20 rfl (j_callV (rest := []) 11 [vI x1, vI x4] k_RX11_231 ⟨w_8_66, p_5_10⟩ ⟨_, _, rfl⟩ (by decide) rfl rfl (Nat.le_of_ble_eq_true rfl) dX11_areMirrors_22 h (kI (fun r1 S1 h => j_aload_n 0 dX11_areMirrors_25 rfl (j_iload_n 2 dX11_areMirrors_26 rfl (j_aload_n 0 dX11_areMirrors_27 rfl (j_getI 11 14 f_RX11_222 dX11_areMirrors_28 h (fun h => j_iconst dX11_areMirrors_31 (j_isub dX11_areMirrors_32 (j_iload 4 dX11_areMirrors_33 rfl (j_isub dX11_areMirrors_35 (j_callV (rest := [vI r1]) 11 [vI x2, vI (((S1.I x0 14) - 1) - x4)] k_RX11_231 ⟨w_8_66, p_5_10⟩ ⟨_, _, rfl⟩ (by decide) rfl rfl (Nat.le_of_ble_eq_true rfl) dX11_areMirrors_36 h (kI (fun r2 S2 h => j_icmp_ne (tgt := 46) dX11_areMirrors_39 (by decide) h (fun h => j_sub [0, 1, 2, 4] rfl (JX11_areMirrors_46 ih _ _ _ _ _ h)) (fun h => j_iconst dX11_areMirrors_42 (j_goto (tgt := 47) dX11_areMirrors_43 (by decide) (j_sub [0, 1, 2, 4] rfl (JX11_areMirrors_47 ih _ _ _ _ _ _ h)))))) (fun _ _ h => h.elim))))))))))) (fun _ _ h => h.elim))))))))))
def VX11_areMirrors_0 (d : Nat) (Q : Out → MS → Prop) (x0 : Nat) (x1 : Int) (x2 : Int) (S : MS) : Prop :=
  ∃ m, VX11_areMirrors_5 d Q m x0 x1 x2 1 0 S
theorem JX11_areMirrors_0 {d : Nat} {S0 : MS} {Q : Out → MS → Prop} (x0 : Nat) (x1 : Int) (x2 : Int) (S : MS) (h : VX11_areMirrors_0 d Q x0 x1 x2 S) : Jw FinM RX11 cX11_areMirrors 5 (some .boolean) [] yX11_areMirrors (d + 1) S0 S 0 [(0, vA x0), (1, vI x1), (2, vI x2)] [] Q :=
  j_iconst dX11_areMirrors_0 (j_istore_n (lv2 := [(3, vI 1), (0, vA x0), (1, vI x1), (2, vI x2)]) dX11_areMirrors_1 (by decide) rfl (j_iconst dX11_areMirrors_2 (j_istore (lv2 := [(4, vI 0), (3, vI 1), (0, vA x0), (1, vI x1), (2, vI x2)]) dX11_areMirrors_3 (by decide) rfl (Exists.elim h (fun m h => j_sub [2, 3, 4, 1, 0] rfl (JX11_areMirrors_5 m _ _ _ _ _ _ h))))))
theorem MX11_areMirrors {d : Nat} {x0 : Nat} {x1 : Int} {x2 : Int} {S : MS} {Q : Out → MS → Prop} (h : VX11_areMirrors_0 d Q x0 x1 x2 S) : Mw hX11_areMirrors yX11_areMirrors (d + 1) [vA x0, vI x1, vI x2] S Q := Mw.ofJ (by decide) (Nat.le_of_ble_eq_true rfl) (JX11_areMirrors_0 _ _ _ S h)
theorem dX11_mirrorOf_0 : decode cX11_mirrorOf 0 = .ok (.iconst 0, 1) := by decide +kernel
theorem dX11_mirrorOf_1 : decode cX11_mirrorOf 1 = .ok (.istore_n 2, 1) := by decide +kernel
theorem dX11_mirrorOf_2 : decode cX11_mirrorOf 2 = .ok (.aload_n 0, 1) := by decide +kernel
theorem dX11_mirrorOf_3 : decode cX11_mirrorOf 3 = .ok (.getfield 222, 3) := by decide +kernel
theorem dX11_mirrorOf_6 : decode cX11_mirrorOf 6 = .ok (.iconst 1, 1) := by decide +kernel
theorem dX11_mirrorOf_7 : decode cX11_mirrorOf 7 = .ok (.isub, 1) := by decide +kernel
theorem dX11_mirrorOf_8 : decode cX11_mirrorOf 8 = .ok (.istore_n 3, 1) := by decide +kernel
theorem dX11_mirrorOf_9 : decode cX11_mirrorOf 9 = .ok (.iload_n 3, 1) := by decide +kernel
theorem dX11_mirrorOf_10 : decode cX11_mirrorOf 10 = .ok (.ifCond .lt 62, 3) := by decide +kernel
theorem dX11_mirrorOf_13 : decode cX11_mirrorOf 13 = .ok (.iconst 0, 1) := by decide +kernel
theorem dX11_mirrorOf_14 : decode cX11_mirrorOf 14 = .ok (.istore 4, 2) := by decide +kernel
theorem dX11_mirrorOf_16 : decode cX11_mirrorOf 16 = .ok (.iconst 0, 1) := by decide +kernel
theorem dX11_mirrorOf_17 : decode cX11_mirrorOf 17 = .ok (.istore 5, 2) := by decide +kernel
theorem dX11_mirrorOf_19 : decode cX11_mirrorOf 19 = .ok (.iload 5, 2) := by decide +kernel
theorem dX11_mirrorOf_21 : decode cX11_mirrorOf 21 = .ok (.iload_n 3, 1) := by decide +kernel
theorem dX11_mirrorOf_22 : decode cX11_mirrorOf 22 = .ok (.if_icmp .ge 35, 3) := by decide +kernel
theorem dX11_mirrorOf_25 : decode cX11_mirrorOf 25 = .ok (.iload 4, 2) := by decide +kernel
theorem dX11_mirrorOf_27 : decode cX11_mirrorOf 27 = .ok (.aload_n 0, 1) := by decide +kernel
theorem dX11_mirrorOf_28 : decode cX11_mirrorOf 28 = .ok (.iload_n 1, 1) := by decide +kernel
theorem dX11_mirrorOf_29 : decode cX11_mirrorOf 29 = .ok (.iload 5, 2) := by decide +kernel
theorem dX11_mirrorOf_31 : decode cX11_mirrorOf 31 = .ok (.invokevirtual 231, 3) := by decide +kernel
theorem dX11_mirrorOf_34 : decode cX11_mirrorOf 34 = .ok (.aload_n 0, 1) := by decide +kernel
theorem dX11_mirrorOf_35 : decode cX11_mirrorOf 35 = .ok (.iload_n 1, 1) := by decide +kernel
theorem dX11_mirrorOf_36 : decode cX11_mirrorOf 36 = .ok (.iload_n 3, 1) := by decide +kernel
theorem dX11_mirrorOf_37 : decode cX11_mirrorOf 37 = .ok (.invokevirtual 231, 3) := by decide +kernel
theorem dX11_mirrorOf_40 : decode cX11_mirrorOf 40 = .ok (.if_icmp .ge 7, 3) := by decide +kernel
theorem dX11_mirrorOf_43 : decode cX11_mirrorOf 43 = .ok (.iconst 1, 1) := by decide +kernel
theorem dX11_mirrorOf_44 : decode cX11_mirrorOf 44 = .ok (.goto 4, 3) := by decide +kernel
theorem dX11_mirrorOf_47 : decode cX11_mirrorOf 47 = .ok (.iconst 0, 1) := by decide +kernel
theorem dX11_mirrorOf_48 : decode cX11_mirrorOf 48 = .ok (.iadd, 1) := by decide +kernel
theorem dX11_mirrorOf_49 : decode cX11_mirrorOf 49 = .ok (.istore 4, 2) := by decide +kernel
theorem dX11_mirrorOf_51 : decode cX11_mirrorOf 51 = .ok (.iinc 5 1, 3) := by decide +kernel
theorem dX11_mirrorOf_54 : decode cX11_mirrorOf 54 = .ok (.goto (-35), 3) := by decide +kernel
theorem dX11_mirrorOf_57 : decode cX11_mirrorOf 57 = .ok (.iload_n 2, 1) := by decide +kernel
theorem dX11_mirrorOf_58 : decode cX11_mirrorOf 58 = .ok (.iload_n 3, 1) := by decide +kernel
theorem dX11_mirrorOf_59 : decode cX11_mirrorOf 59 = .ok (.iconst 1, 1) := by decide +kernel
theorem dX11_mirrorOf_60 : decode cX11_mirrorOf 60 = .ok (.iadd, 1) := by decide +kernel
theorem dX11_mirrorOf_61 : decode cX11_mirrorOf 61 = .ok (.imul, 1) := by decide +kernel
theorem dX11_mirrorOf_62 : decode cX11_mirrorOf 62 = .ok (.iload 4, 2) := by decide +kernel
theorem dX11_mirrorOf_64 : decode cX11_mirrorOf 64 = .ok (.iadd, 1) := by decide +kernel
theorem dX11_mirrorOf_65 : decode cX11_mirrorOf 65 = .ok (.istore_n 2, 1) := by decide +kernel
theorem dX11_mirrorOf_66 : decode cX11_mirrorOf 66 = .ok (.iinc 3 (-1), 3) := by decide +kernel
theorem dX11_mirrorOf_69 : decode cX11_mirrorOf 69 = .ok (.goto (-60), 3) := by decide +kernel
theorem dX11_mirrorOf_72 : decode cX11_mirrorOf 72 = .ok (.iload_n 2, 1) := by decide +kernel
theorem dX11_mirrorOf_73 : decode cX11_mirrorOf 73 = .ok (.ireturn, 1) := by decide +kernel
def VX11_mirrorOf_48 (d : Nat) (c9 : Nat → Int → Int → Int → MS → Prop) (c19 : Nat → Int → Int → Int → Int → Int → MS → Prop) (Q : Out → MS → Prop) (x0 : Nat) (x1 : Int) (x2 : Int) (x3 : Int) (x5 : Int) (t0 : Int) (t1 : Int) (S : MS) : Prop :=
  c19 x0 x1 x2 x3 (t1 + t0) (x5 + 1) S
theorem JX11_mirrorOf_48 {d : Nat} {c9 : Nat → Int → Int → Int → MS → Prop} {c19 : Nat → Int → Int → Int → Int → Int → MS → Prop} {S0 : MS} {Q : Out → MS → Prop} (hc9 : ∀ (x0 : Nat) (x1 : Int) (x2 : Int) (x3 : Int) (S : MS), c9 x0 x1 x2 x3 S → Jw FinM RX11 cX11_mirrorOf 6 (some .int) [] yX11_mirrorOf (d + 1) S0 S 9 [(0, vA x0), (1, vI x1), (2, vI x2), (3, vI x3)] [] Q) (hc19 : ∀ (x0 : Nat) (x1 : Int) (x2 : Int) (x3 : Int) (x4 : Int) (x5 : Int) (S : MS), c19 x0 x1 x2 x3 x4 x5 S → Jw FinM RX11 cX11_mirrorOf 6 (some .int) [] yX11_mirrorOf (d + 1) S0 S 19 [(0, vA x0), (1, vI x1), (2, vI x2), (3, vI x3), (4, vI x4), (5, vI x5)] [] Q) (x0 : Nat) (x1 : Int) (x2 : Int) (x3 : Int) (x5 : Int) (t0 : Int) (t1 : Int) (S : MS) (h : VX11_mirrorOf_48 d c9 c19 Q x0 x1 x2 x3 x5 t0 t1 S) : Jw FinM RX11 cX11_mirrorOf 6 (some .int) [] yX11_mirrorOf (d + 1) S0 S 48 [(0, vA x0), (1, vI x1), (2, vI x2), (3, vI x3), (5, vI x5)] [vI t0, vI t1] Q :=
  j_iadd dX11_mirrorOf_48 (j_istore (lv2 := [(4, vI (t1 + t0)), (0, vA x0), (1, vI x1), (2, vI x2), (3, vI x3), (5, vI x5)]) dX11_mirrorOf_49 (by decide) rfl (j_iinc 5 (lv2 := [(5, vI (x5 + 1)), (4, vI (t1 + t0)), (0, vA x0), (1, vI x1), (2, vI x2), (3, vI x3)]) dX11_mirrorOf_51 rfl (by decide) rfl (j_goto (tgt := 19) dX11_mirrorOf_54 (by decide) (j_sub [2, 3, 4, 5, 1, 0] rfl (hc19 _ _ _ _ _ _ _ h)))))
def VX11_mirrorOf_19 (d : Nat) (c9 : Nat → Int → Int → Int → MS → Prop) (Q : Out → MS → Prop) : Nat → Nat → Int → Int → Int → Int → Int → MS → Prop
  | 0, _, _, _, _, _, _, _ => False
  | n + 1, x0, x1, x2, x3, x4, x5, S => (R32 x5 ∧ R32 x3) ∧ ((x3 ≤ x5) → c9 x0 x1 ((x2 * (x3 + 1)) + x4) (x3 + (-1)) S) ∧ (¬ (x3 ≤ x5) → S.K x0 = 11 ∧ Mw hX11_at yX11_at d [vA x0, vI x1, vI x5] S (oI (fun r1 S1 => S1.K x0 = 11 ∧ Mw hX11_at yX11_at d [vA x0, vI x1, vI x3] S1 (oI (fun r2 S2 => (R32 r1 ∧ R32 r2) ∧ ((r2 ≤ r1) → VX11_mirrorOf_48 d c9 (VX11_mirrorOf_19 d c9 Q n) Q x0 x1 x2 x3 x5 0 x4 S2) ∧ (¬ (r2 ≤ r1) → VX11_mirrorOf_48 d c9 (VX11_mirrorOf_19 d c9 Q n) Q x0 x1 x2 x3 x5 1 x4 S2))))))
theorem JX11_mirrorOf_19 {d : Nat} {c9 : Nat → Int → Int → Int → MS → Prop} {S0 : MS} {Q : Out → MS → Prop} (hc9 : ∀ (x0 : Nat) (x1 : Int) (x2 : Int) (x3 : Int) (S : MS), c9 x0 x1 x2 x3 S → Jw FinM RX11 cX11_mirrorOf 6 (some .int) [] yX11_mirrorOf (d + 1) S0 S 9 [(0, vA x0), (1, vI x1), (2, vI x2), (3, vI x3)] [] Q) : ∀ (n : Nat) (x0 : Nat) (x1 : Int) (x2 : Int) (x3 : Int) (x4 : Int) (x5 : Int) (S : MS), VX11_mirrorOf_19 d c9 Q n x0 x1 x2 x3 x4 x5 S → Jw FinM RX11 cX11_mirrorOf 6 (some .int) [] yX11_mirrorOf (d + 1) S0 S 19 [(0, vA x0), (1, vI x1), (2, vI x2), (3, vI x3), (4, vI x4), (5, vI x5)] [] Q := by
  intro n
  induction n with
  | zero => intro x0 x1 x2 x3 x4 x5 S h; exact h.elim
  | succ n ih =>
    intro x0 x1 x2 x3 x4 x5 S h
    exact j_iload 5 dX11_mirrorOf_19 rfl (j_iload_n 3 dX11_mirrorOf_21 rfl (j_icmp_ge (tgt := 57) dX11_mirrorOf_22 (by decide) h (fun h => j_iload_n 2 dX11_mirrorOf_57 rfl (j_iload_n 3 dX11_mirrorOf_58 rfl (j_iconst dX11_mirrorOf_59 (j_iadd dX11_mirrorOf_60 (j_imul dX11_mirrorOf_61 (j_iload 4 dX11_mirrorOf_62 rfl (j_iadd dX11_mirrorOf_64 (j_istore_n (lv2 := [(2, vI ((x2 * (x3 + 1)) + x4)), (0, vA x0), (1, vI x1), (3, vI x3), (4, vI x4), (5, vI x5)]) dX11_mirrorOf_65 (by decide) rfl (j_iinc 3 (lv2 := [(3, vI (x3 + (-1))), (2, vI ((x2 * (x3 + 1)) + x4)), (0, vA x0), (1, vI x1), (4, vI x4), (5, vI x5)]) dX11_mirrorOf_66 rfl (by decide) rfl (j_goto (tgt := 9) dX11_mirrorOf_69 (by decide) (j_sub [2, 3, 1, 0] rfl (hc9 _ _ _ _ _ h)))))))))))) (fun h => j_iload 4 dX11_mirrorOf_25 rfl (j_aload_n 0 dX11_mirrorOf_27 rfl (j_iload_n 1 dX11_mirrorOf_28 rfl (j_iload 5 dX11_mirrorOf_29 rfl (j_callV (rest := [vI x4]) 11 [vI x1, vI x5] k_RX11_231 ⟨w_8_66, p_5_10⟩ ⟨_, _, rfl⟩ (by decide) rfl rfl (Nat.le_of_ble_eq_true rfl) dX11_mirrorOf_31 h (kI (fun r1 S1 h => j_aload_n 0 dX11_mirrorOf_34 rfl (j_iload_n 1 dX11_mirrorOf_35 rfl (j_iload_n 3 dX11_mirrorOf_36 rfl (j_callV (rest := [vI r1, vI x4]) 11 [vI x1, vI x3] k_RX11_231 ⟨w_8_66, p_5_10⟩ ⟨_, _, rfl⟩ (by decide) rfl rfl (Nat.le_of_ble_eq_true rfl) dX11_mirrorOf_37 h (kI (fun r2 S2 h => j_icmp_ge (tgt := 47) dX11_mirrorOf_40 (by decide) h (fun h => j_iconst dX11_mirrorOf_47 (j_sub [0, 1, 2, 3, 5] rfl (JX11_mirrorOf_48 hc9 ih _ _ _ _ _ _ _ _ h))) (fun h => j_iconst dX11_mirrorOf_43 (j_goto (tgt := 48) dX11_mirrorOf_44 (by decide) (j_sub [0, 1, 2, 3, 5] rfl (JX11_mirrorOf_48 hc9 ih _ _ _ _ _ _ _ _ h)))))) (fun _ _ h => h.elim)))))) (fun _ _ h => h.elim))))))))
def VX11_mirrorOf_9 (d : Nat) (Q : Out → MS → Prop) : Nat → Nat → Int → Int → Int → MS → Prop
  | 0, _, _, _, _, _ => False
  | n + 1, x0, x1, x2, x3, S => R32 x3 ∧ ((x3 < 0) → Q (.inl (some (vI x2))) S) ∧ (¬ (x3 < 0) → ∃ m, VX11_mirrorOf_19 d (VX11_mirrorOf_9 d Q n) Q m x0 x1 x2 x3 0 0 S)
theorem JX11_mirrorOf_9 {d : Nat} {S0 : MS} {Q : Out → MS → Prop} : ∀ (n : Nat) (x0 : Nat) (x1 : Int) (x2 : Int) (x3 : Int) (S : MS), VX11_mirrorOf_9 d Q n x0 x1 x2 x3 S → Jw FinM RX11 cX11_mirrorOf 6 (some .int) [] yX11_mirrorOf (d + 1) S0 S 9 [(0, vA x0), (1, vI x1), (2, vI x2), (3, vI x3)] [] Q := by
  intro n
  induction n with
  | zero => intro x0 x1 x2 x3 S h; exact h.elim
  | succ n ih =>
    intro x0 x1 x2 x3 S h
    exact j_iload_n 3 dX11_mirrorOf_9 rfl (j_if_lt (tgt := 72) dX11_mirrorOf_10 (by decide) h (fun h => j_iload_n 2 dX11_mirrorOf_72 rfl (j_iret rfl dX11_mirrorOf_73 h)) (fun h => j_iconst dX11_mirrorOf_13 (j_istore (lv2 := [(4, vI 0), (0, vA x0), (1, vI x1), (2, vI x2), (3, vI x3)]) dX11_mirrorOf_14 (by decide) rfl (j_iconst dX11_mirrorOf_16 (j_istore (lv2 := [(5, vI 0), (4, vI 0), (0, vA x0), (1, vI x1), (2, vI x2), (3, vI x3)]) dX11_mirrorOf_17 (by decide) rfl (Exists.elim h (fun m h => j_sub [2, 3, 4, 5, 1, 0] rfl (JX11_mirrorOf_19 ih m _ _ _ _ _ _ _ h))))))))
def VX11_mirrorOf_0 (d : Nat) (Q : Out → MS → Prop) (x0 : Nat) (x1 : Int) (S : MS) : Prop :=
  S.K x0 = 11 ∧ (∃ m, VX11_mirrorOf_9 d Q m x0 x1 0 ((S.I x0 14) - 1) S)
theorem JX11_mirrorOf_0 {d : Nat} {S0 : MS} {Q : Out → MS → Prop} (x0 : Nat) (x1 : Int) (S : MS) (h : VX11_mirrorOf_0 d Q x0 x1 S) : Jw FinM RX11 cX11_mirrorOf 6 (some .int) [] yX11_mirrorOf (d + 1) S0 S 0 [(0, vA x0), (1, vI x1)] [] Q :=
  j_iconst dX11_mirrorOf_0 (j_istore_n (lv2 := [(2, vI 0), (0, vA x0), (1, vI x1)]) dX11_mirrorOf_1 (by decide) rfl (j_aload_n 1 dX11_mirrorOf_2 rfl (j_getI 11 14 f_RX11_222 dX11_mirrorOf_3 h (fun h => j_iconst dX11_mirrorOf_6 (j_isub dX11_mirrorOf_7 (j_istore_n (lv2 := [(3, vI ((S.I x0 14) - 1)), (2, vI 0), (0, vA x0), (1, vI x1)]) dX11_mirrorOf_8 (by decide) rfl (Exists.elim h (fun m h => j_sub [2, 3, 1, 0] rfl (JX11_mirrorOf_9 m _ _ _ _ _ h)))))))))
theorem MX11_mirrorOf {d : Nat} {x0 : Nat} {x1 : Int} {S : MS} {Q : Out → MS → Prop} (h : VX11_mirrorOf_0 d Q x0 x1 S) : Mw hX11_mirrorOf yX11_mirrorOf (d + 1) [vA x0, vI x1] S Q := Mw.ofJ (by decide) (Nat.le_of_ble_eq_true rfl) (JX11_mirrorOf_0 _ _ S h)
theorem dX11_isKnown_0 : decode cX11_isKnown 0 = .ok (.aload_n 0, 1) := by decide +kernel
theorem dX11_isKnown_1 : decode cX11_isKnown 1 = .ok (.getfield 45, 3) := by decide +kernel
theorem dX11_isKnown_4 : decode cX11_isKnown 4 = .ok (.iload_n 1, 1) := by decide +kernel
theorem dX11_isKnown_5 : decode cX11_isKnown 5 = .ok (.iaload, 1) := by decide +kernel
theorem dX11_isKnown_6 : decode cX11_isKnown 6 = .ok (.iconst 1, 1) := by decide +kernel
theorem dX11_isKnown_7 : decode cX11_isKnown 7 = .ok (.if_icmp .eq 32, 3) := by decide +kernel
theorem dX11_isKnown_10 : decode cX11_isKnown 10 = .ok (.aload_n 0, 1) := by decide +kernel
theorem dX11_isKnown_11 : decode cX11_isKnown 11 = .ok (.getfield 45, 3) := by decide +kernel
theorem dX11_isKnown_14 : decode cX11_isKnown 14 = .ok (.iload_n 1, 1) := by decide +kernel
theorem dX11_isKnown_15 : decode cX11_isKnown 15 = .ok (.iaload, 1) := by decide +kernel
theorem dX11_isKnown_16 : decode cX11_isKnown 16 = .ok (.iconst 2, 1) := by decide +kernel
theorem dX11_isKnown_17 : decode cX11_isKnown 17 = .ok (.if_icmp .ne 26, 3) := by decide +kernel
theorem dX11_isKnown_20 : decode cX11_isKnown 20 = .ok (.aload_n 0, 1) := by decide +kernel
theorem dX11_isKnown_21 : decode cX11_isKnown 21 = .ok (.aload_n 0, 1) := by decide +kernel
theorem dX11_isKnown_22 : decode cX11_isKnown 22 = .ok (.iload_n 1, 1) := by decide +kernel
theorem dX11_isKnown_23 : decode cX11_isKnown 23 = .ok (.iconst 0, 1) := by decide +kernel
theorem dX11_isKnown_24 : decode cX11_isKnown 24 = .ok (.invokevirtual 247, 3) := by decide +kernel
theorem dX11_isKnown_27 : decode cX11_isKnown 27 = .ok (.aload_n 0, 1) := by decide +kernel
theorem dX11_isKnown_28 : decode cX11_isKnown 28 = .ok (.iload_n 1, 1) := by decide +kernel
theorem dX11_isKnown_29 : decode cX11_isKnown 29 = .ok (.iconst 1, 1) := by decide +kernel
theorem dX11_isKnown_30 : decode cX11_isKnown 30 = .ok (.invokevirtual 247, 3) := by decide +kernel
theorem dX11_isKnown_33 : decode cX11_isKnown 33 = .ok (.invokevirtual 250, 3) := by decide +kernel
theorem dX11_isKnown_36 : decode cX11_isKnown 36 = .ok (.ifCond .eq 7, 3) := by decide +kernel
theorem dX11_isKnown_39 : decode cX11_isKnown 39 = .ok (.iconst 1, 1) := by decide +kernel
theorem dX11_isKnown_40 : decode cX11_isKnown 40 = .ok (.goto 4, 3) := by decide +kernel
theorem dX11_isKnown_43 : decode cX11_isKnown 43 = .ok (.iconst 0, 1) := by decide +kernel
theorem dX11_isKnown_44 : decode cX11_isKnown 44 = .ok (.ireturn, 1) := by decide +kernel
def VX11_isKnown_39 (d : Nat) (Q : Out → MS → Prop) (S : MS) : Prop :=
  B01 1 ∧ Q (.inl (some (vI 1))) S
theorem JX11_isKnown_39 {d : Nat} {S0 : MS} {Q : Out → MS → Prop} (S : MS) (h : VX11_isKnown_39 d Q S) : Jw FinM RX11 cX11_isKnown 2 (some .boolean) [] yX11_isKnown (d + 1) S0 S 39 [] [] Q :=
  j_iconst dX11_isKnown_39 (j_goto (tgt := 44) dX11_isKnown_40 (by decide) (j_zret rfl dX11_isKnown_44 h))
def VX11_isKnown_0 (d : Nat) (Q : Out → MS → Prop) (x0 : Nat) (x1 : Int) (S : MS) : Prop :=
  S.K x0 = 11 ∧ ∃ b1, S.R x0 17 = some b1 ∧ ((S.K b1 = 13 ∧ 0 ≤ x1 ∧ x1 < S.N b1) ∧ ((R32 (S.I b1 (x1).toNat) ∧ R32 (1 : Int)) ∧ (((S.I b1 (x1).toNat) = (1 : Int)) → VX11_isKnown_39 d Q S) ∧ (¬ ((S.I b1 (x1).toNat) = (1 : Int)) → S.K x0 = 11 ∧ ∃ b2, S.R x0 17 = some b2 ∧ ((S.K b2 = 13 ∧ 0 ≤ x1 ∧ x1 < S.N b2) ∧ ((R32 (S.I b2 (x1).toNat) ∧ R32 (2 : Int)) ∧ (¬ ((S.I b2 (x1).toNat) = (2 : Int)) → B01 0 ∧ Q (.inl (some (vI 0))) S) ∧ (((S.I b2 (x1).toNat) = (2 : Int)) → S.K x0 = 11 ∧ Mw hX11_rowAt yX11_rowAt d [vA x0, vI x1, vI 0] S (oI (fun r3 S3 => S3.K x0 = 11 ∧ Mw hX11_rowAt yX11_rowAt d [vA x0, vI x1, vI 1] S3 (oI (fun r4 S4 => S4.K x0 = 11 ∧ Mw hX11_areMirrors yX11_areMirrors d [vA x0, vI r3, vI r4] S4 (oI (fun r5 S5 => R32 r5 ∧ ((r5 = 0) → B01 0 ∧ Q (.inl (some (vI 0))) S5) ∧ (¬ (r5 = 0) → VX11_isKnown_39 d Q S5)))))))))))))
theorem JX11_isKnown_0 {d : Nat} {S0 : MS} {Q : Out → MS → Prop} (x0 : Nat) (x1 : Int) (S : MS) (h : VX11_isKnown_0 d Q x0 x1 S) : Jw FinM RX11 cX11_isKnown 2 (some .boolean) [] yX11_isKnown (d + 1) S0 S 0 [(0, vA x0), (1, vI x1)] [] Q :=
  j_aload_n 0 dX11_isKnown_0 rfl (j_getR 11 17 f_RX11_45 dX11_isKnown_1 h (fun b1 h => j_iload_n 1 dX11_isKnown_4 rfl (j_iald dX11_isKnown_5 h (fun h => j_iconst dX11_isKnown_6 (j_icmp_eq (tgt := 39) dX11_isKnown_7 (by decide) h (fun h => j_sub [] rfl (JX11_isKnown_39 _ h)) (fun h => j_aload_n 0 dX11_isKnown_10 rfl (j_getR 11 17 f_RX11_45 dX11_isKnown_11 h (fun b2 h => j_iload_n 1 dX11_isKnown_14 rfl (j_iald dX11_isKnown_15 h (fun h => j_iconst dX11_isKnown_16 (j_icmp_ne (tgt := 43) dX11_isKnown_17 (by decide) h (fun h => j_iconst dX11_isKnown_43 (j_zret rfl dX11_isKnown_44 h)) (fun h => j_aload_n 0 dX11_isKnown_20 rfl (j_aload_n 0 dX11_isKnown_21 rfl (j_iload_n 1 dX11_isKnown_22 rfl (j_iconst dX11_isKnown_23 (j_callV (rest := [vA x0]) 11 [vI x1, vI 0] k_RX11_247 ⟨w_8_74, p_5_11⟩ ⟨_, _, rfl⟩ (by decide) rfl rfl (Nat.le_of_ble_eq_true rfl) dX11_isKnown_24 h (kI (fun r3 S3 h => j_aload_n 0 dX11_isKnown_27 rfl (j_iload_n 1 dX11_isKnown_28 rfl (j_iconst dX11_isKnown_29 (j_callV (rest := [vI r3, vA x0]) 11 [vI x1, vI 1] k_RX11_247 ⟨w_8_74, p_5_11⟩ ⟨_, _, rfl⟩ (by decide) rfl rfl (Nat.le_of_ble_eq_true rfl) dX11_isKnown_30 h (kI (fun r4 S4 h => j_callV (rest := []) 11 [vI r3, vI r4] k_RX11_250 ⟨w_8_166, p_6_8⟩ ⟨_, _, rfl⟩ (by decide) rfl rfl (Nat.le_of_ble_eq_true rfl) dX11_isKnown_33 h (kI (fun r5 S5 h => j_if_eq (tgt := 43) dX11_isKnown_36 (by decide) h (fun h => j_iconst dX11_isKnown_43 (j_zret rfl dX11_isKnown_44 h)) (fun h => j_sub [] rfl (JX11_isKnown_39 _ h)))) (fun _ _ h => h.elim))) (fun _ _ h => h.elim)))))) (fun _ _ h => h.elim)))))))))))))))))
theorem MX11_isKnown {d : Nat} {x0 : Nat} {x1 : Int} {S : MS} {Q : Out → MS → Prop} (h : VX11_isKnown_0 d Q x0 x1 S) : Mw hX11_isKnown yX11_isKnown (d + 1) [vA x0, vI x1] S Q := Mw.ofJ (by decide) (Nat.le_of_ble_eq_true rfl) (JX11_isKnown_0 _ _ S h)
theorem dX11_rows_0 : decode cX11_rows 0 = .ok (.aload_n 0, 1) := by decide +kernel
theorem dX11_rows_1 : decode cX11_rows 1 = .ok (.iconst 0, 1) := by decide +kernel
theorem dX11_rows_2 : decode cX11_rows 2 = .ok (.putfield 3, 3) := by decide +kernel
theorem dX11_rows_5 : decode cX11_rows 5 = .ok (.aload_n 0, 1) := by decide +kernel
theorem dX11_rows_6 : decode cX11_rows 6 = .ok (.invokevirtual 253, 3) := by decide +kernel
theorem dX11_rows_9 : decode cX11_rows 9 = .ok (.aload_n 0, 1) := by decide +kernel
theorem dX11_rows_10 : decode cX11_rows 10 = .ok (.getfield 45, 3) := by decide +kernel
theorem dX11_rows_13 : decode cX11_rows 13 = .ok (.iconst 0, 1) := by decide +kernel
theorem dX11_rows_14 : decode cX11_rows 14 = .ok (.iaload, 1) := by decide +kernel
theorem dX11_rows_15 : decode cX11_rows 15 = .ok (.ireturn, 1) := by decide +kernel
def VX11_rows_0 (d : Nat) (Q : Out → MS → Prop) (x0 : Nat) (S : MS) : Prop :=
  S.K x0 = 11 ∧ ((S.setI x0 0 0).K x0 = 11 ∧ Mw hX11_leaves yX11_leaves d [vA x0] (S.setI x0 0 0) (oV (fun S1 => S1.K x0 = 11 ∧ ∃ b2, S1.R x0 17 = some b2 ∧ ((S1.K b2 = 13 ∧ 0 ≤ (0 : Int) ∧ (0 : Int) < S1.N b2) ∧ (Q (.inl (some (vI (S1.I b2 ((0 : Int)).toNat)))) S1)))))
theorem JX11_rows_0 {d : Nat} {S0 : MS} {Q : Out → MS → Prop} (x0 : Nat) (S : MS) (h : VX11_rows_0 d Q x0 S) : Jw FinM RX11 cX11_rows 1 (some .int) [] yX11_rows (d + 1) S0 S 0 [(0, vA x0)] [] Q :=
  j_aload_n 0 dX11_rows_0 rfl (j_iconst dX11_rows_1 (j_putI 11 0 f_RX11_3 dX11_rows_2 h (fun h => j_aload_n 0 dX11_rows_5 rfl (j_callV (rest := []) 11 [] k_RX11_253 ⟨w_8_42, p_5_4⟩ ⟨_, _, rfl⟩ (by decide) rfl rfl (Nat.le_of_ble_eq_true rfl) dX11_rows_6 h (kV (fun S1 h => j_aload_n 0 dX11_rows_9 rfl (j_getR 11 17 f_RX11_45 dX11_rows_10 h (fun b2 h => j_iconst dX11_rows_13 (j_iald dX11_rows_14 h (fun h => j_iret rfl dX11_rows_15 h)))))) (fun _ _ h => h.elim)))))
theorem MX11_rows {d : Nat} {x0 : Nat} {S : MS} {Q : Out → MS → Prop} (h : VX11_rows_0 d Q x0 S) : Mw hX11_rows yX11_rows (d + 1) [vA x0] S Q := Mw.ofJ (by decide) (Nat.le_of_ble_eq_true rfl) (JX11_rows_0 _ S h)
theorem dX11_row_0 : decode cX11_row 0 = .ok (.aload_n 0, 1) := by decide +kernel
theorem dX11_row_1 : decode cX11_row 1 = .ok (.iconst 0, 1) := by decide +kernel
theorem dX11_row_2 : decode cX11_row 2 = .ok (.putfield 3, 3) := by decide +kernel
theorem dX11_row_5 : decode cX11_row 5 = .ok (.aload_n 0, 1) := by decide +kernel
theorem dX11_row_6 : decode cX11_row 6 = .ok (.aload_n 0, 1) := by decide +kernel
theorem dX11_row_7 : decode cX11_row 7 = .ok (.iload_n 2, 1) := by decide +kernel
theorem dX11_row_8 : decode cX11_row 8 = .ok (.invokevirtual 194, 3) := by decide +kernel
theorem dX11_row_11 : decode cX11_row 11 = .ok (.iconst 1, 1) := by decide +kernel
theorem dX11_row_12 : decode cX11_row 12 = .ok (.invokevirtual 190, 3) := by decide +kernel
theorem dX11_row_15 : decode cX11_row 15 = .ok (.ifCond .eq 5, 3) := by decide +kernel
theorem dX11_row_18 : decode cX11_row 18 = .ok (.iconst 0, 1) := by decide +kernel
theorem dX11_row_19 : decode cX11_row 19 = .ok (.ireturn, 1) := by decide +kernel
theorem dX11_row_20 : decode cX11_row 20 = .ok (.aload_n 0, 1) := by decide +kernel
theorem dX11_row_21 : decode cX11_row 21 = .ok (.invokevirtual 253, 3) := by decide +kernel
theorem dX11_row_24 : decode cX11_row 24 = .ok (.iload_n 1, 1) := by decide +kernel
theorem dX11_row_25 : decode cX11_row 25 = .ok (.iconst 0, 1) := by decide +kernel
theorem dX11_row_26 : decode cX11_row 26 = .ok (.aload_n 0, 1) := by decide +kernel
theorem dX11_row_27 : decode cX11_row 27 = .ok (.getfield 45, 3) := by decide +kernel
theorem dX11_row_30 : decode cX11_row 30 = .ok (.iconst 0, 1) := by decide +kernel
theorem dX11_row_31 : decode cX11_row 31 = .ok (.iaload, 1) := by decide +kernel
theorem dX11_row_32 : decode cX11_row 32 = .ok (.iconst 1, 1) := by decide +kernel
theorem dX11_row_33 : decode cX11_row 33 = .ok (.isub, 1) := by decide +kernel
theorem dX11_row_34 : decode cX11_row 34 = .ok (.invokestatic 87, 3) := by decide +kernel
theorem dX11_row_37 : decode cX11_row 37 = .ok (.ifCond .eq 17, 3) := by decide +kernel
theorem dX11_row_40 : decode cX11_row 40 = .ok (.aload_n 0, 1) := by decide +kernel
theorem dX11_row_41 : decode cX11_row 41 = .ok (.aload_n 0, 1) := by decide +kernel
theorem dX11_row_42 : decode cX11_row 42 = .ok (.iconst 0, 1) := by decide +kernel
theorem dX11_row_43 : decode cX11_row 43 = .ok (.iload_n 1, 1) := by decide +kernel
theorem dX11_row_44 : decode cX11_row 44 = .ok (.invokevirtual 247, 3) := by decide +kernel
theorem dX11_row_47 : decode cX11_row 47 = .ok (.iload_n 2, 1) := by decide +kernel
theorem dX11_row_48 : decode cX11_row 48 = .ok (.invokevirtual 231, 3) := by decide +kernel
theorem dX11_row_51 : decode cX11_row 51 = .ok (.goto 4, 3) := by decide +kernel
theorem dX11_row_54 : decode cX11_row 54 = .ok (.iconst (-1), 1) := by decide +kernel
theorem dX11_row_55 : decode cX11_row 55 = .ok (.ireturn, 1) := by decide +kernel
def VX11_row_0 (d : Nat) (Q : Out → MS → Prop) (x0 : Nat) (x1 : Int) (x2 : Int) (S : MS) : Prop :=
  S.K x0 = 11 ∧ ((S.setI x0 0 0).K x0 = 11 ∧ Mw hX11_noThing yX11_noThing d [vA x0, vI x2] (S.setI x0 0 0) (oI (fun r1 S1 => S1.K x0 = 11 ∧ Mw hX11_throwsIf yX11_throwsIf d [vA x0, vI r1, vI 1] S1 (oI (fun r2 S2 => R32 r2 ∧ ((r2 = 0) → S2.K x0 = 11 ∧ Mw hX11_leaves yX11_leaves d [vA x0] S2 (oV (fun S3 => S3.K x0 = 11 ∧ ∃ b4, S3.R x0 17 = some b4 ∧ ((S3.K b4 = 13 ∧ 0 ≤ (0 : Int) ∧ (0 : Int) < S3.N b4) ∧ (Mw hX11_in yX11_in d [vI x1, vI 0, vI ((S3.I b4 ((0 : Int)).toNat) - 1)] S3 (oI (fun r5 S5 => R32 r5 ∧ ((r5 = 0) → Q (.inl (some (vI ((-1))))) S5) ∧ (¬ (r5 = 0) → S5.K x0 = 11 ∧ Mw hX11_rowAt yX11_rowAt d [vA x0, vI 0, vI x1] S5 (oI (fun r6 S6 => S6.K x0 = 11 ∧ Mw hX11_at yX11_at d [vA x0, vI r6, vI x2] S6 (oI (fun r7 S7 => Q (.inl (some (vI r7))) S7)))))))))))) ∧ (¬ (r2 = 0) → Q (.inl (some (vI 0))) S2))))))
theorem JX11_row_0 {d : Nat} {S0 : MS} {Q : Out → MS → Prop} (x0 : Nat) (x1 : Int) (x2 : Int) (S : MS) (h : VX11_row_0 d Q x0 x1 x2 S) : Jw FinM RX11 cX11_row 3 (some .int) [] yX11_row (d + 1) S0 S 0 [(0, vA x0), (1, vI x1), (2, vI x2)] [] Q :=
  j_aload_n 0 dX11_row_0 rfl (j_iconst dX11_row_1 (j_putI 11 0 f_RX11_3 dX11_row_2 h (fun h => j_aload_n 0 dX11_row_5 rfl (j_aload_n 0 dX11_row_6 rfl (j_iload_n 2 dX11_row_7 rfl (j_callV (rest := [vA x0]) 11 [vI x2] k_RX11_194 ⟨w_7_214, p_4_9⟩ ⟨_, _, rfl⟩ (by decide) rfl rfl (Nat.le_of_ble_eq_true rfl) dX11_row_8 h (kI (fun r1 S1 h => j_iconst dX11_row_11 (j_callV (rest := []) 11 [vI r1, vI 1] k_RX11_190 ⟨w_7_191, p_4_7⟩ ⟨_, _, rfl⟩ (by decide) rfl rfl (Nat.le_of_ble_eq_true rfl) dX11_row_12 h (kI (fun r2 S2 h => j_if_eq (tgt := 20) dX11_row_15 (by decide) h (fun h => j_aload_n 0 dX11_row_20 rfl (j_callV (rest := []) 11 [] k_RX11_253 ⟨w_8_42, p_5_4⟩ ⟨_, _, rfl⟩ (by decide) rfl rfl (Nat.le_of_ble_eq_true rfl) dX11_row_21 h (kV (fun S3 h => j_iload_n 1 dX11_row_24 rfl (j_iconst dX11_row_25 (j_aload_n 0 dX11_row_26 rfl (j_getR 11 17 f_RX11_45 dX11_row_27 h (fun b4 h => j_iconst dX11_row_30 (j_iald dX11_row_31 h (fun h => j_iconst dX11_row_32 (j_isub dX11_row_33 (j_callS (rest := []) [vI x1, vI 0, vI ((S3.I b4 ((0 : Int)).toNat) - 1)] k_RX11_87 w_7_198 rfl rfl (Nat.le_of_ble_eq_true rfl) dX11_row_34 h (kI (fun r5 S5 h => j_if_eq (tgt := 54) dX11_row_37 (by decide) h (fun h => j_iconst dX11_row_54 (j_iret rfl dX11_row_55 h)) (fun h => j_aload_n 0 dX11_row_40 rfl (j_aload_n 0 dX11_row_41 rfl (j_iconst dX11_row_42 (j_iload_n 1 dX11_row_43 rfl (j_callV (rest := [vA x0]) 11 [vI 0, vI x1] k_RX11_247 ⟨w_8_74, p_5_11⟩ ⟨_, _, rfl⟩ (by decide) rfl rfl (Nat.le_of_ble_eq_true rfl) dX11_row_44 h (kI (fun r6 S6 h => j_iload_n 2 dX11_row_47 rfl (j_callV (rest := []) 11 [vI r6, vI x2] k_RX11_231 ⟨w_8_66, p_5_10⟩ ⟨_, _, rfl⟩ (by decide) rfl rfl (Nat.le_of_ble_eq_true rfl) dX11_row_48 h (kI (fun r7 S7 h => j_goto (tgt := 55) dX11_row_51 (by decide) (j_iret rfl dX11_row_55 h))) (fun _ _ h => h.elim)))) (fun _ _ h => h.elim)))))))) (fun _ _ h => h.elim))))))))))) (fun _ _ h => h.elim))) (fun h => j_iconst dX11_row_18 (j_iret rfl dX11_row_19 h)))) (fun _ _ h => h.elim)))) (fun _ _ h => h.elim)))))))
theorem MX11_row {d : Nat} {x0 : Nat} {x1 : Int} {x2 : Int} {S : MS} {Q : Out → MS → Prop} (h : VX11_row_0 d Q x0 x1 x2 S) : Mw hX11_row yX11_row (d + 1) [vA x0, vI x1, vI x2] S Q := Mw.ofJ (by decide) (Nat.le_of_ble_eq_true rfl) (JX11_row_0 _ _ _ S h)
theorem dX11_tapedRow_0 : decode cX11_tapedRow 0 = .ok (.aload_n 0, 1) := by decide +kernel
theorem dX11_tapedRow_1 : decode cX11_tapedRow 1 = .ok (.invokevirtual 184, 3) := by decide +kernel
theorem dX11_tapedRow_4 : decode cX11_tapedRow 4 = .ok (.aload_n 0, 1) := by decide +kernel
theorem dX11_tapedRow_5 : decode cX11_tapedRow 5 = .ok (.invokevirtual 241, 3) := by decide +kernel
theorem dX11_tapedRow_8 : decode cX11_tapedRow 8 = .ok (.aload_n 0, 1) := by decide +kernel
theorem dX11_tapedRow_9 : decode cX11_tapedRow 9 = .ok (.getfield 116, 3) := by decide +kernel
theorem dX11_tapedRow_12 : decode cX11_tapedRow 12 = .ok (.aload_n 0, 1) := by decide +kernel
theorem dX11_tapedRow_13 : decode cX11_tapedRow 13 = .ok (.invokevirtual 83, 3) := by decide +kernel
theorem dX11_tapedRow_16 : decode cX11_tapedRow 16 = .ok (.if_icmp .eq 5, 3) := by decide +kernel
theorem dX11_tapedRow_19 : decode cX11_tapedRow 19 = .ok (.iconst (-1), 1) := by decide +kernel
theorem dX11_tapedRow_20 : decode cX11_tapedRow 20 = .ok (.ireturn, 1) := by decide +kernel
theorem dX11_tapedRow_21 : decode cX11_tapedRow 21 = .ok (.iconst 0, 1) := by decide +kernel
theorem dX11_tapedRow_22 : decode cX11_tapedRow 22 = .ok (.istore_n 1, 1) := by decide +kernel
theorem dX11_tapedRow_23 : decode cX11_tapedRow 23 = .ok (.iload_n 1, 1) := by decide +kernel
theorem dX11_tapedRow_24 : decode cX11_tapedRow 24 = .ok (.aload_n 0, 1) := by decide +kernel
theorem dX11_tapedRow_25 : decode cX11_tapedRow 25 = .ok (.getfield 225, 3) := by decide +kernel
theorem dX11_tapedRow_28 : decode cX11_tapedRow 28 = .ok (.if_icmp .ge 61, 3) := by decide +kernel
theorem dX11_tapedRow_31 : decode cX11_tapedRow 31 = .ok (.iconst 1, 1) := by decide +kernel
theorem dX11_tapedRow_32 : decode cX11_tapedRow 32 = .ok (.istore_n 2, 1) := by decide +kernel
theorem dX11_tapedRow_33 : decode cX11_tapedRow 33 = .ok (.iconst 0, 1) := by decide +kernel
theorem dX11_tapedRow_34 : decode cX11_tapedRow 34 = .ok (.istore_n 3, 1) := by decide +kernel
theorem dX11_tapedRow_35 : decode cX11_tapedRow 35 = .ok (.iload_n 3, 1) := by decide +kernel
theorem dX11_tapedRow_36 : decode cX11_tapedRow 36 = .ok (.aload_n 0, 1) := by decide +kernel
theorem dX11_tapedRow_37 : decode cX11_tapedRow 37 = .ok (.getfield 116, 3) := by decide +kernel
theorem dX11_tapedRow_40 : decode cX11_tapedRow 40 = .ok (.if_icmp .ge 37, 3) := by decide +kernel
theorem dX11_tapedRow_43 : decode cX11_tapedRow 43 = .ok (.iload_n 2, 1) := by decide +kernel
theorem dX11_tapedRow_44 : decode cX11_tapedRow 44 = .ok (.ifCond .eq 25, 3) := by decide +kernel
theorem dX11_tapedRow_47 : decode cX11_tapedRow 47 = .ok (.aload_n 0, 1) := by decide +kernel
theorem dX11_tapedRow_48 : decode cX11_tapedRow 48 = .ok (.getfield 23, 3) := by decide +kernel
theorem dX11_tapedRow_51 : decode cX11_tapedRow 51 = .ok (.iload_n 3, 1) := by decide +kernel
theorem dX11_tapedRow_52 : decode cX11_tapedRow 52 = .ok (.baload, 1) := by decide +kernel
theorem dX11_tapedRow_53 : decode cX11_tapedRow 53 = .ok (.bipush 48, 2) := by decide +kernel
theorem dX11_tapedRow_55 : decode cX11_tapedRow 55 = .ok (.aload_n 0, 1) := by decide +kernel
theorem dX11_tapedRow_56 : decode cX11_tapedRow 56 = .ok (.iload_n 1, 1) := by decide +kernel
theorem dX11_tapedRow_57 : decode cX11_tapedRow 57 = .ok (.iload_n 3, 1) := by decide +kernel
theorem dX11_tapedRow_58 : decode cX11_tapedRow 58 = .ok (.invokevirtual 231, 3) := by decide +kernel
theorem dX11_tapedRow_61 : decode cX11_tapedRow 61 = .ok (.iadd, 1) := by decide +kernel
theorem dX11_tapedRow_62 : decode cX11_tapedRow 62 = .ok (.if_icmp .ne 7, 3) := by decide +kernel
theorem dX11_tapedRow_65 : decode cX11_tapedRow 65 = .ok (.iconst 1, 1) := by decide +kernel
theorem dX11_tapedRow_66 : decode cX11_tapedRow 66 = .ok (.goto 4, 3) := by decide +kernel
theorem dX11_tapedRow_69 : decode cX11_tapedRow 69 = .ok (.iconst 0, 1) := by decide +kernel
theorem dX11_tapedRow_70 : decode cX11_tapedRow 70 = .ok (.istore_n 2, 1) := by decide +kernel
theorem dX11_tapedRow_71 : decode cX11_tapedRow 71 = .ok (.iinc 3 1, 3) := by decide +kernel
theorem dX11_tapedRow_74 : decode cX11_tapedRow 74 = .ok (.goto (-39), 3) := by decide +kernel
theorem dX11_tapedRow_77 : decode cX11_tapedRow 77 = .ok (.iload_n 2, 1) := by decide +kernel
theorem dX11_tapedRow_78 : decode cX11_tapedRow 78 = .ok (.ifCond .eq 5, 3) := by decide +kernel
theorem dX11_tapedRow_81 : decode cX11_tapedRow 81 = .ok (.iload_n 1, 1) := by decide +kernel
theorem dX11_tapedRow_82 : decode cX11_tapedRow 82 = .ok (.ireturn, 1) := by decide +kernel
theorem dX11_tapedRow_83 : decode cX11_tapedRow 83 = .ok (.iinc 1 1, 3) := by decide +kernel
theorem dX11_tapedRow_86 : decode cX11_tapedRow 86 = .ok (.goto (-63), 3) := by decide +kernel
theorem dX11_tapedRow_89 : decode cX11_tapedRow 89 = .ok (.iconst (-1), 1) := by decide +kernel
theorem dX11_tapedRow_90 : decode cX11_tapedRow 90 = .ok (.ireturn, 1) := by decide +kernel
def VX11_tapedRow_70 (d : Nat) (c23 : Nat → Int → MS → Prop) (c35 : Nat → Int → Int → Int → MS → Prop) (Q : Out → MS → Prop) (x0 : Nat) (x1 : Int) (x3 : Int) (t0 : Int) (S : MS) : Prop :=
  c35 x0 x1 t0 (x3 + 1) S
theorem JX11_tapedRow_70 {d : Nat} {c23 : Nat → Int → MS → Prop} {c35 : Nat → Int → Int → Int → MS → Prop} {S0 : MS} {Q : Out → MS → Prop} (hc23 : ∀ (x0 : Nat) (x1 : Int) (S : MS), c23 x0 x1 S → Jw FinM RX11 cX11_tapedRow 4 (some .int) [] yX11_tapedRow (d + 1) S0 S 23 [(0, vA x0), (1, vI x1)] [] Q) (hc35 : ∀ (x0 : Nat) (x1 : Int) (x2 : Int) (x3 : Int) (S : MS), c35 x0 x1 x2 x3 S → Jw FinM RX11 cX11_tapedRow 4 (some .int) [] yX11_tapedRow (d + 1) S0 S 35 [(0, vA x0), (1, vI x1), (2, vI x2), (3, vI x3)] [] Q) (x0 : Nat) (x1 : Int) (x3 : Int) (t0 : Int) (S : MS) (h : VX11_tapedRow_70 d c23 c35 Q x0 x1 x3 t0 S) : Jw FinM RX11 cX11_tapedRow 4 (some .int) [] yX11_tapedRow (d + 1) S0 S 70 [(0, vA x0), (1, vI x1), (3, vI x3)] [vI t0] Q :=
  j_istore_n (lv2 := [(2, vI t0), (0, vA x0), (1, vI x1), (3, vI x3)]) dX11_tapedRow_70 (by decide) rfl (j_iinc 3 (lv2 := [(3, vI (x3 + 1)), (2, vI t0), (0, vA x0), (1, vI x1)]) dX11_tapedRow_71 rfl (by decide) rfl (j_goto (tgt := 35) dX11_tapedRow_74 (by decide) (j_sub [2, 3, 1, 0] rfl (hc35 _ _ _ _ _ h))))
def VX11_tapedRow_69 (d : Nat) (c23 : Nat → Int → MS → Prop) (c35 : Nat → Int → Int → Int → MS → Prop) (Q : Out → MS → Prop) (x0 : Nat) (x1 : Int) (x3 : Int) (S : MS) : Prop :=
  VX11_tapedRow_70 d c23 c35 Q x0 x1 x3 0 S
theorem JX11_tapedRow_69 {d : Nat} {c23 : Nat → Int → MS → Prop} {c35 : Nat → Int → Int → Int → MS → Prop} {S0 : MS} {Q : Out → MS → Prop} (hc23 : ∀ (x0 : Nat) (x1 : Int) (S : MS), c23 x0 x1 S → Jw FinM RX11 cX11_tapedRow 4 (some .int) [] yX11_tapedRow (d + 1) S0 S 23 [(0, vA x0), (1, vI x1)] [] Q) (hc35 : ∀ (x0 : Nat) (x1 : Int) (x2 : Int) (x3 : Int) (S : MS), c35 x0 x1 x2 x3 S → Jw FinM RX11 cX11_tapedRow 4 (some .int) [] yX11_tapedRow (d + 1) S0 S 35 [(0, vA x0), (1, vI x1), (2, vI x2), (3, vI x3)] [] Q) (x0 : Nat) (x1 : Int) (x3 : Int) (S : MS) (h : VX11_tapedRow_69 d c23 c35 Q x0 x1 x3 S) : Jw FinM RX11 cX11_tapedRow 4 (some .int) [] yX11_tapedRow (d + 1) S0 S 69 [(0, vA x0), (1, vI x1), (3, vI x3)] [] Q :=
  j_iconst dX11_tapedRow_69 (JX11_tapedRow_70 hc23 hc35 _ _ _ _ _ h)
def VX11_tapedRow_35 (d : Nat) (c23 : Nat → Int → MS → Prop) (Q : Out → MS → Prop) : Nat → Nat → Int → Int → Int → MS → Prop
  | 0, _, _, _, _, _ => False
  | n + 1, x0, x1, x2, x3, S => S.K x0 = 11 ∧ ((R32 x3 ∧ R32 (S.I x0 8)) ∧ (((S.I x0 8) ≤ x3) → R32 x2 ∧ ((x2 = 0) → c23 x0 (x1 + 1) S) ∧ (¬ (x2 = 0) → Q (.inl (some (vI x1))) S)) ∧ (¬ ((S.I x0 8) ≤ x3) → R32 x2 ∧ ((x2 = 0) → VX11_tapedRow_69 d c23 (VX11_tapedRow_35 d c23 Q n) Q x0 x1 x3 S) ∧ (¬ (x2 = 0) → S.K x0 = 11 ∧ ∃ b1, S.R x0 5 = some b1 ∧ ((S.K b1 = 12 ∧ 0 ≤ x3 ∧ x3 < S.N b1) ∧ (S.K x0 = 11 ∧ Mw hX11_at yX11_at d [vA x0, vI x1, vI x3] S (oI (fun r2 S2 => (R32 (S.I b1 (x3).toNat) ∧ R32 (48 + r2)) ∧ (¬ ((S.I b1 (x3).toNat) = (48 + r2)) → VX11_tapedRow_69 d c23 (VX11_tapedRow_35 d c23 Q n) Q x0 x1 x3 S2) ∧ (((S.I b1 (x3).toNat) = (48 + r2)) → VX11_tapedRow_70 d c23 (VX11_tapedRow_35 d c23 Q n) Q x0 x1 x3 1 S2))))))))
theorem JX11_tapedRow_35 {d : Nat} {c23 : Nat → Int → MS → Prop} {S0 : MS} {Q : Out → MS → Prop} (hc23 : ∀ (x0 : Nat) (x1 : Int) (S : MS), c23 x0 x1 S → Jw FinM RX11 cX11_tapedRow 4 (some .int) [] yX11_tapedRow (d + 1) S0 S 23 [(0, vA x0), (1, vI x1)] [] Q) : ∀ (n : Nat) (x0 : Nat) (x1 : Int) (x2 : Int) (x3 : Int) (S : MS), VX11_tapedRow_35 d c23 Q n x0 x1 x2 x3 S → Jw FinM RX11 cX11_tapedRow 4 (some .int) [] yX11_tapedRow (d + 1) S0 S 35 [(0, vA x0), (1, vI x1), (2, vI x2), (3, vI x3)] [] Q := by
  intro n
  induction n with
  | zero => intro x0 x1 x2 x3 S h; exact h.elim
  | succ n ih =>
    intro x0 x1 x2 x3 S h
    exact j_iload_n 3 dX11_tapedRow_35 rfl (j_aload_n 0 dX11_tapedRow_36 rfl (j_getI 11 8 f_RX11_116 dX11_tapedRow_37 h (fun h => j_icmp_ge (tgt := 77) dX11_tapedRow_40 (by decide) h (fun h => j_iload_n 2 dX11_tapedRow_77 rfl (j_if_eq (tgt := 83) dX11_tapedRow_78 (by decide) h (fun h => j_iinc 1 (lv2 := [(1, vI (x1 + 1)), (0, vA x0), (2, vI x2), (3, vI x3)]) dX11_tapedRow_83 rfl (by decide) rfl (j_goto (tgt := 23) dX11_tapedRow_86 (by decide) (j_sub [1, 0] rfl (hc23 _ _ _ h)))) (fun h => j_iload_n 1 dX11_tapedRow_81 rfl (j_iret rfl dX11_tapedRow_82 h)))) (fun h => j_iload_n 2 dX11_tapedRow_43 rfl (j_if_eq (tgt := 69) dX11_tapedRow_44 (by decide) h (fun h => j_sub [0, 1, 3] rfl (JX11_tapedRow_69 hc23 ih _ _ _ _ h)) (fun h => j_aload_n 0 dX11_tapedRow_47 rfl (j_getR 11 5 f_RX11_23 dX11_tapedRow_48 h (fun b1 h => j_iload_n 3 dX11_tapedRow_51 rfl (j_bald dX11_tapedRow_52 h (fun h => j_bipush dX11_tapedRow_53 rfl (j_aload_n 0 dX11_tapedRow_55 rfl (j_iload_n 1 dX11_tapedRow_56 rfl (j_iload_n 3 dX11_tapedRow_57 rfl (j_callV (rest := [vI 48, vI (S.I b1 (x3).toNat)]) 11 [vI x1, vI x3] k_RX11_231 ⟨w_8_66, p_5_10⟩ ⟨_, _, rfl⟩ (by decide) rfl rfl (Nat.le_of_ble_eq_true rfl) dX11_tapedRow_58 h (kI (fun r2 S2 h => j_iadd dX11_tapedRow_61 (j_icmp_ne (tgt := 69) dX11_tapedRow_62 (by decide) h (fun h => j_sub [0, 1, 3] rfl (JX11_tapedRow_69 hc23 ih _ _ _ _ h)) (fun h => j_iconst dX11_tapedRow_65 (j_goto (tgt := 70) dX11_tapedRow_66 (by decide) (j_sub [0, 1, 3] rfl (JX11_tapedRow_70 hc23 ih _ _ _ _ _ h))))))) (fun _ _ h => h.elim)))))))))))))))
def VX11_tapedRow_23 (d : Nat) (Q : Out → MS → Prop) : Nat → Nat → Int → MS → Prop
  | 0, _, _, _ => False
  | n + 1, x0, x1, S => S.K x0 = 11 ∧ ((R32 x1 ∧ R32 (S.I x0 13)) ∧ (((S.I x0 13) ≤ x1) → Q (.inl (some (vI ((-1))))) S) ∧ (¬ ((S.I x0 13) ≤ x1) → ∃ m, VX11_tapedRow_35 d (VX11_tapedRow_23 d Q n) Q m x0 x1 1 0 S))
theorem JX11_tapedRow_23 {d : Nat} {S0 : MS} {Q : Out → MS → Prop} : ∀ (n : Nat) (x0 : Nat) (x1 : Int) (S : MS), VX11_tapedRow_23 d Q n x0 x1 S → Jw FinM RX11 cX11_tapedRow 4 (some .int) [] yX11_tapedRow (d + 1) S0 S 23 [(0, vA x0), (1, vI x1)] [] Q := by
  intro n
  induction n with
  | zero => intro x0 x1 S h; exact h.elim
  | succ n ih =>
    intro x0 x1 S h
    exact j_iload_n 1 dX11_tapedRow_23 rfl (j_aload_n 0 dX11_tapedRow_24 rfl (j_getI 11 13 f_RX11_225 dX11_tapedRow_25 h (fun h => j_icmp_ge (tgt := 89) dX11_tapedRow_28 (by decide) h (fun h => j_iconst dX11_tapedRow_89 (j_iret rfl dX11_tapedRow_90 h)) (fun h => j_iconst dX11_tapedRow_31 (j_istore_n (lv2 := [(2, vI 1), (0, vA x0), (1, vI x1)]) dX11_tapedRow_32 (by decide) rfl (j_iconst dX11_tapedRow_33 (j_istore_n (lv2 := [(3, vI 0), (2, vI 1), (0, vA x0), (1, vI x1)]) dX11_tapedRow_34 (by decide) rfl (Exists.elim h (fun m h => j_sub [2, 3, 1, 0] rfl (JX11_tapedRow_35 ih m _ _ _ _ _ h))))))))))
def VX11_tapedRow_0 (d : Nat) (Q : Out → MS → Prop) (x0 : Nat) (S : MS) : Prop :=
  S.K x0 = 11 ∧ Mw hX11_uses yX11_uses d [vA x0] S (oV (fun S1 => S1.K x0 = 11 ∧ Mw hX11_fills yX11_fills d [vA x0] S1 (oV (fun S2 => S2.K x0 = 11 ∧ (S2.K x0 = 11 ∧ Mw hX11_things yX11_things d [vA x0] S2 (oI (fun r3 S3 => (R32 (S2.I x0 8) ∧ R32 r3) ∧ (((S2.I x0 8) = r3) → ∃ m, VX11_tapedRow_23 d Q m x0 0 S3) ∧ (¬ ((S2.I x0 8) = r3) → Q (.inl (some (vI ((-1))))) S3))))))))
theorem JX11_tapedRow_0 {d : Nat} {S0 : MS} {Q : Out → MS → Prop} (x0 : Nat) (S : MS) (h : VX11_tapedRow_0 d Q x0 S) : Jw FinM RX11 cX11_tapedRow 4 (some .int) [] yX11_tapedRow (d + 1) S0 S 0 [(0, vA x0)] [] Q :=
  j_aload_n 0 dX11_tapedRow_0 rfl (j_callV (rest := []) 11 [] k_RX11_184 ⟨w_7_127, p_3_11⟩ ⟨_, _, rfl⟩ (by decide) rfl rfl (Nat.le_of_ble_eq_true rfl) dX11_tapedRow_1 h (kV (fun S1 h => j_aload_n 0 dX11_tapedRow_4 rfl (j_callV (rest := []) 11 [] k_RX11_241 ⟨w_8_46, p_5_5⟩ ⟨_, _, rfl⟩ (by decide) rfl rfl (Nat.le_of_ble_eq_true rfl) dX11_tapedRow_5 h (kV (fun S2 h => j_aload_n 0 dX11_tapedRow_8 rfl (j_getI 11 8 f_RX11_116 dX11_tapedRow_9 h (fun h => j_aload_n 0 dX11_tapedRow_12 rfl (j_callV (rest := [vI (S2.I x0 8)]) 11 [] k_RX11_83 ⟨w_7_218, p_4_10⟩ ⟨_, _, rfl⟩ (by decide) rfl rfl (Nat.le_of_ble_eq_true rfl) dX11_tapedRow_13 h (kI (fun r3 S3 h => j_icmp_eq (tgt := 21) dX11_tapedRow_16 (by decide) h (fun h => j_iconst dX11_tapedRow_21 (j_istore_n (lv2 := [(1, vI 0), (0, vA x0)]) dX11_tapedRow_22 (by decide) rfl (Exists.elim h (fun m h => j_sub [1, 0] rfl (JX11_tapedRow_23 m _ _ _ h))))) (fun h => j_iconst dX11_tapedRow_19 (j_iret rfl dX11_tapedRow_20 h)))) (fun _ _ h => h.elim)))))) (fun _ _ h => h.elim)))) (fun _ _ h => h.elim))
theorem MX11_tapedRow {d : Nat} {x0 : Nat} {S : MS} {Q : Out → MS → Prop} (h : VX11_tapedRow_0 d Q x0 S) : Mw hX11_tapedRow yX11_tapedRow (d + 1) [vA x0] S Q := Mw.ofJ (by decide) (Nat.le_of_ble_eq_true rfl) (JX11_tapedRow_0 _ S h)
theorem dX11_fits_0 : decode cX11_fits 0 = .ok (.aload_n 0, 1) := by decide +kernel
theorem dX11_fits_1 : decode cX11_fits 1 = .ok (.invokevirtual 256, 3) := by decide +kernel
theorem dX11_fits_4 : decode cX11_fits 4 = .ok (.istore_n 1, 1) := by decide +kernel
theorem dX11_fits_5 : decode cX11_fits 5 = .ok (.aload_n 0, 1) := by decide +kernel
theorem dX11_fits_6 : decode cX11_fits 6 = .ok (.iload_n 1, 1) := by decide +kernel
theorem dX11_fits_7 : decode cX11_fits 7 = .ok (.ifCond .ge 7, 3) := by decide +kernel
theorem dX11_fits_10 : decode cX11_fits 10 = .ok (.iconst 1, 1) := by decide +kernel
theorem dX11_fits_11 : decode cX11_fits 11 = .ok (.goto 4, 3) := by decide +kernel
theorem dX11_fits_14 : decode cX11_fits 14 = .ok (.iconst 0, 1) := by decide +kernel
theorem dX11_fits_15 : decode cX11_fits 15 = .ok (.iconst 1, 1) := by decide +kernel
theorem dX11_fits_16 : decode cX11_fits 16 = .ok (.invokevirtual 190, 3) := by decide +kernel
theorem dX11_fits_19 : decode cX11_fits 19 = .ok (.ifCond .ne 16, 3) := by decide +kernel
theorem dX11_fits_22 : decode cX11_fits 22 = .ok (.aload_n 0, 1) := by decide +kernel
theorem dX11_fits_23 : decode cX11_fits 23 = .ok (.iload_n 1, 1) := by decide +kernel
theorem dX11_fits_24 : decode cX11_fits 24 = .ok (.iconst 0, 1) := by decide +kernel
theorem dX11_fits_25 : decode cX11_fits 25 = .ok (.invokevirtual 244, 3) := by decide +kernel
theorem dX11_fits_28 : decode cX11_fits 28 = .ok (.ifCond .eq 7, 3) := by decide +kernel
theorem dX11_fits_31 : decode cX11_fits 31 = .ok (.iconst 1, 1) := by decide +kernel
theorem dX11_fits_32 : decode cX11_fits 32 = .ok (.goto 4, 3) := by decide +kernel
theorem dX11_fits_35 : decode cX11_fits 35 = .ok (.iconst 0, 1) := by decide +kernel
theorem dX11_fits_36 : decode cX11_fits 36 = .ok (.ireturn, 1) := by decide +kernel
def VX11_fits_15 (d : Nat) (Q : Out → MS → Prop) (x0 : Nat) (x1 : Int) (t0 : Int) (t1 : Nat) (S : MS) : Prop :=
  S.K t1 = 11 ∧ Mw hX11_throwsIf yX11_throwsIf d [vA t1, vI t0, vI 1] S (oI (fun r1 S1 => R32 r1 ∧ (¬ (r1 = 0) → B01 0 ∧ Q (.inl (some (vI 0))) S1) ∧ ((r1 = 0) → S1.K x0 = 11 ∧ Mw hX11_fitsAll yX11_fitsAll d [vA x0, vI x1, vI 0] S1 (oI (fun r2 S2 => R32 r2 ∧ ((r2 = 0) → B01 0 ∧ Q (.inl (some (vI 0))) S2) ∧ (¬ (r2 = 0) → B01 1 ∧ Q (.inl (some (vI 1))) S2))))))
theorem JX11_fits_15 {d : Nat} {S0 : MS} {Q : Out → MS → Prop} (x0 : Nat) (x1 : Int) (t0 : Int) (t1 : Nat) (S : MS) (h : VX11_fits_15 d Q x0 x1 t0 t1 S) : Jw FinM RX11 cX11_fits 2 (some .boolean) [] yX11_fits (d + 1) S0 S 15 [(0, vA x0), (1, vI x1)] [vI t0, vA t1] Q :=
  j_iconst dX11_fits_15 (j_callV (rest := []) 11 [vI t0, vI 1] k_RX11_190 ⟨w_7_191, p_4_7⟩ ⟨_, _, rfl⟩ (by decide) rfl rfl (Nat.le_of_ble_eq_true rfl) dX11_fits_16 h (kI (fun r1 S1 h => j_if_ne (tgt := 35) dX11_fits_19 (by decide) h (fun h => j_iconst dX11_fits_35 (j_zret rfl dX11_fits_36 h)) (fun h => j_aload_n 0 dX11_fits_22 rfl (j_iload_n 1 dX11_fits_23 rfl (j_iconst dX11_fits_24 (j_callV (rest := []) 11 [vI x1, vI 0] k_RX11_244 ⟨w_8_54, p_5_7⟩ ⟨_, _, rfl⟩ (by decide) rfl rfl (Nat.le_of_ble_eq_true rfl) dX11_fits_25 h (kI (fun r2 S2 h => j_if_eq (tgt := 35) dX11_fits_28 (by decide) h (fun h => j_iconst dX11_fits_35 (j_zret rfl dX11_fits_36 h)) (fun h => j_iconst dX11_fits_31 (j_goto (tgt := 36) dX11_fits_32 (by decide) (j_zret rfl dX11_fits_36 h))))) (fun _ _ h => h.elim))))))) (fun _ _ h => h.elim))
def VX11_fits_0 (d : Nat) (Q : Out → MS → Prop) (x0 : Nat) (S : MS) : Prop :=
  S.K x0 = 11 ∧ Mw hX11_tapedRow yX11_tapedRow d [vA x0] S (oI (fun r1 S1 => R32 r1 ∧ ((0 ≤ r1) → VX11_fits_15 d Q x0 r1 0 x0 S1) ∧ (¬ (0 ≤ r1) → VX11_fits_15 d Q x0 r1 1 x0 S1)))
theorem JX11_fits_0 {d : Nat} {S0 : MS} {Q : Out → MS → Prop} (x0 : Nat) (S : MS) (h : VX11_fits_0 d Q x0 S) : Jw FinM RX11 cX11_fits 2 (some .boolean) [] yX11_fits (d + 1) S0 S 0 [(0, vA x0)] [] Q :=
  j_aload_n 0 dX11_fits_0 rfl (j_callV (rest := []) 11 [] k_RX11_256 ⟨w_8_82, p_5_12⟩ ⟨_, _, rfl⟩ (by decide) rfl rfl (Nat.le_of_ble_eq_true rfl) dX11_fits_1 h (kI (fun r1 S1 h => j_istore_n (lv2 := [(1, vI r1), (0, vA x0)]) dX11_fits_4 (by decide) rfl (j_aload_n 1 dX11_fits_5 rfl (j_iload_n 0 dX11_fits_6 rfl (j_if_ge (tgt := 14) dX11_fits_7 (by decide) h (fun h => j_iconst dX11_fits_14 (j_sub [1, 0] rfl (JX11_fits_15 _ _ _ _ _ h))) (fun h => j_iconst dX11_fits_10 (j_goto (tgt := 15) dX11_fits_11 (by decide) (j_sub [1, 0] rfl (JX11_fits_15 _ _ _ _ _ h))))))))) (fun _ _ h => h.elim))
theorem MX11_fits {d : Nat} {x0 : Nat} {S : MS} {Q : Out → MS → Prop} (h : VX11_fits_0 d Q x0 S) : Mw hX11_fits yX11_fits (d + 1) [vA x0] S Q := Mw.ofJ (by decide) (Nat.le_of_ble_eq_true rfl) (JX11_fits_0 _ S h)
theorem dX11_isNoThree_0 : decode cX11_isNoThree 0 = .ok (.iload_n 1, 1) := by decide +kernel
theorem dX11_isNoThree_1 : decode cX11_isNoThree 1 = .ok (.aload_n 0, 1) := by decide +kernel
theorem dX11_isNoThree_2 : decode cX11_isNoThree 2 = .ok (.invokevirtual 83, 3) := by decide +kernel
theorem dX11_isNoThree_5 : decode cX11_isNoThree 5 = .ok (.ishr, 1) := by decide +kernel
theorem dX11_isNoThree_6 : decode cX11_isNoThree 6 = .ok (.ifCond .ne 11, 3) := by decide +kernel
theorem dX11_isNoThree_9 : decode cX11_isNoThree 9 = .ok (.iload_n 1, 1) := by decide +kernel
theorem dX11_isNoThree_10 : decode cX11_isNoThree 10 = .ok (.invokestatic 102, 3) := by decide +kernel
theorem dX11_isNoThree_13 : decode cX11_isNoThree 13 = .ok (.iconst 3, 1) := by decide +kernel
theorem dX11_isNoThree_14 : decode cX11_isNoThree 14 = .ok (.if_icmp .eq 7, 3) := by decide +kernel
theorem dX11_isNoThree_17 : decode cX11_isNoThree 17 = .ok (.iconst 1, 1) := by decide +kernel
theorem dX11_isNoThree_18 : decode cX11_isNoThree 18 = .ok (.goto 4, 3) := by decide +kernel
theorem dX11_isNoThree_21 : decode cX11_isNoThree 21 = .ok (.iconst 0, 1) := by decide +kernel
theorem dX11_isNoThree_22 : decode cX11_isNoThree 22 = .ok (.ireturn, 1) := by decide +kernel
def VX11_isNoThree_17 (d : Nat) (Q : Out → MS → Prop) (S : MS) : Prop :=
  B01 1 ∧ Q (.inl (some (vI 1))) S
theorem JX11_isNoThree_17 {d : Nat} {S0 : MS} {Q : Out → MS → Prop} (S : MS) (h : VX11_isNoThree_17 d Q S) : Jw FinM RX11 cX11_isNoThree 2 (some .boolean) [] yX11_isNoThree (d + 1) S0 S 17 [] [] Q :=
  j_iconst dX11_isNoThree_17 (j_goto (tgt := 22) dX11_isNoThree_18 (by decide) (j_zret rfl dX11_isNoThree_22 h))
def VX11_isNoThree_0 (d : Nat) (Q : Out → MS → Prop) (x0 : Nat) (x1 : Int) (S : MS) : Prop :=
  S.K x0 = 11 ∧ Mw hX11_things yX11_things d [vA x0] S (oI (fun r1 S1 => R32 (iShr x1 r1) ∧ (¬ ((iShr x1 r1) = 0) → VX11_isNoThree_17 d Q S1) ∧ (((iShr x1 r1) = 0) → Mw hJ6_bitCount_0f7a4 yJ6_bitCount_0f7a4 d [vI x1] S1 (oI (fun r2 S2 => (R32 r2 ∧ R32 (3 : Int)) ∧ ((r2 = (3 : Int)) → B01 0 ∧ Q (.inl (some (vI 0))) S2) ∧ (¬ (r2 = (3 : Int)) → VX11_isNoThree_17 d Q S2))))))
theorem JX11_isNoThree_0 {d : Nat} {S0 : MS} {Q : Out → MS → Prop} (x0 : Nat) (x1 : Int) (S : MS) (h : VX11_isNoThree_0 d Q x0 x1 S) : Jw FinM RX11 cX11_isNoThree 2 (some .boolean) [] yX11_isNoThree (d + 1) S0 S 0 [(0, vA x0), (1, vI x1)] [] Q :=
  j_iload_n 1 dX11_isNoThree_0 rfl (j_aload_n 0 dX11_isNoThree_1 rfl (j_callV (rest := [vI x1]) 11 [] k_RX11_83 ⟨w_7_218, p_4_10⟩ ⟨_, _, rfl⟩ (by decide) rfl rfl (Nat.le_of_ble_eq_true rfl) dX11_isNoThree_2 h (kI (fun r1 S1 h => j_ishr dX11_isNoThree_5 (j_if_ne (tgt := 17) dX11_isNoThree_6 (by decide) h (fun h => j_sub [] rfl (JX11_isNoThree_17 _ h)) (fun h => j_iload_n 1 dX11_isNoThree_9 rfl (j_callS (rest := []) [vI x1] k_RX11_102 w_2_86 rfl rfl (Nat.le_of_ble_eq_true rfl) dX11_isNoThree_10 h (kI (fun r2 S2 h => j_iconst dX11_isNoThree_13 (j_icmp_eq (tgt := 21) dX11_isNoThree_14 (by decide) h (fun h => j_iconst dX11_isNoThree_21 (j_zret rfl dX11_isNoThree_22 h)) (fun h => j_sub [] rfl (JX11_isNoThree_17 _ h))))) (fun _ _ h => h.elim)))))) (fun _ _ h => h.elim)))
theorem MX11_isNoThree {d : Nat} {x0 : Nat} {x1 : Int} {S : MS} {Q : Out → MS → Prop} (h : VX11_isNoThree_0 d Q x0 x1 S) : Mw hX11_isNoThree yX11_isNoThree (d + 1) [vA x0, vI x1] S Q := Mw.ofJ (by decide) (Nat.le_of_ble_eq_true rfl) (JX11_isNoThree_0 _ _ S h)
theorem dX11_may_0 : decode cX11_may 0 = .ok (.aload_n 0, 1) := by decide +kernel
theorem dX11_may_1 : decode cX11_may 1 = .ok (.iconst 0, 1) := by decide +kernel
theorem dX11_may_2 : decode cX11_may 2 = .ok (.putfield 3, 3) := by decide +kernel
theorem dX11_may_5 : decode cX11_may 5 = .ok (.aload_n 0, 1) := by decide +kernel
theorem dX11_may_6 : decode cX11_may 6 = .ok (.aload_n 0, 1) := by decide +kernel
theorem dX11_may_7 : decode cX11_may 7 = .ok (.iload_n 1, 1) := by decide +kernel
theorem dX11_may_8 : decode cX11_may 8 = .ok (.invokevirtual 259, 3) := by decide +kernel
theorem dX11_may_11 : decode cX11_may 11 = .ok (.iconst 1, 1) := by decide +kernel
theorem dX11_may_12 : decode cX11_may 12 = .ok (.invokevirtual 190, 3) := by decide +kernel
theorem dX11_may_15 : decode cX11_may 15 = .ok (.ifCond .eq 5, 3) := by decide +kernel
theorem dX11_may_18 : decode cX11_may 18 = .ok (.iconst 0, 1) := by decide +kernel
theorem dX11_may_19 : decode cX11_may 19 = .ok (.ireturn, 1) := by decide +kernel
theorem dX11_may_20 : decode cX11_may 20 = .ok (.aload_n 0, 1) := by decide +kernel
theorem dX11_may_21 : decode cX11_may 21 = .ok (.invokevirtual 253, 3) := by decide +kernel
theorem dX11_may_24 : decode cX11_may 24 = .ok (.iconst 0, 1) := by decide +kernel
theorem dX11_may_25 : decode cX11_may 25 = .ok (.istore_n 2, 1) := by decide +kernel
theorem dX11_may_26 : decode cX11_may 26 = .ok (.iconst 0, 1) := by decide +kernel
theorem dX11_may_27 : decode cX11_may 27 = .ok (.istore_n 3, 1) := by decide +kernel
theorem dX11_may_28 : decode cX11_may 28 = .ok (.iload_n 3, 1) := by decide +kernel
theorem dX11_may_29 : decode cX11_may 29 = .ok (.aload_n 0, 1) := by decide +kernel
theorem dX11_may_30 : decode cX11_may 30 = .ok (.getfield 45, 3) := by decide +kernel
theorem dX11_may_33 : decode cX11_may 33 = .ok (.iconst 0, 1) := by decide +kernel
theorem dX11_may_34 : decode cX11_may 34 = .ok (.iaload, 1) := by decide +kernel
theorem dX11_may_35 : decode cX11_may 35 = .ok (.if_icmp .ge 26, 3) := by decide +kernel
theorem dX11_may_38 : decode cX11_may 38 = .ok (.iload_n 2, 1) := by decide +kernel
theorem dX11_may_39 : decode cX11_may 39 = .ok (.iconst 1, 1) := by decide +kernel
theorem dX11_may_40 : decode cX11_may 40 = .ok (.aload_n 0, 1) := by decide +kernel
theorem dX11_may_41 : decode cX11_may 41 = .ok (.iconst 0, 1) := by decide +kernel
theorem dX11_may_42 : decode cX11_may 42 = .ok (.iload_n 1, 1) := by decide +kernel
theorem dX11_may_43 : decode cX11_may 43 = .ok (.aload_n 0, 1) := by decide +kernel
theorem dX11_may_44 : decode cX11_may 44 = .ok (.iconst 0, 1) := by decide +kernel
theorem dX11_may_45 : decode cX11_may 45 = .ok (.iload_n 3, 1) := by decide +kernel
theorem dX11_may_46 : decode cX11_may 46 = .ok (.invokevirtual 247, 3) := by decide +kernel
theorem dX11_may_49 : decode cX11_may 49 = .ok (.invokevirtual 234, 3) := by decide +kernel
theorem dX11_may_52 : decode cX11_may 52 = .ok (.ishl, 1) := by decide +kernel
theorem dX11_may_53 : decode cX11_may 53 = .ok (.ior, 1) := by decide +kernel
theorem dX11_may_54 : decode cX11_may 54 = .ok (.istore_n 2, 1) := by decide +kernel
theorem dX11_may_55 : decode cX11_may 55 = .ok (.iinc 3 1, 3) := by decide +kernel
theorem dX11_may_58 : decode cX11_may 58 = .ok (.goto (-30), 3) := by decide +kernel
theorem dX11_may_61 : decode cX11_may 61 = .ok (.iload_n 2, 1) := by decide +kernel
theorem dX11_may_62 : decode cX11_may 62 = .ok (.ireturn, 1) := by decide +kernel
def VX11_may_28 (d : Nat) (Q : Out → MS → Prop) : Nat → Nat → Int → Int → Int → MS → Prop
  | 0, _, _, _, _, _ => False
  | n + 1, x0, x1, x2, x3, S => S.K x0 = 11 ∧ ∃ b1, S.R x0 17 = some b1 ∧ ((S.K b1 = 13 ∧ 0 ≤ (0 : Int) ∧ (0 : Int) < S.N b1) ∧ ((R32 x3 ∧ R32 (S.I b1 ((0 : Int)).toNat)) ∧ (((S.I b1 ((0 : Int)).toNat) ≤ x3) → Q (.inl (some (vI x2))) S) ∧ (¬ ((S.I b1 ((0 : Int)).toNat) ≤ x3) → S.K x0 = 11 ∧ Mw hX11_rowAt yX11_rowAt d [vA x0, vI 0, vI x3] S (oI (fun r2 S2 => S2.K x0 = 11 ∧ Mw hX11_riser yX11_riser d [vA x0, vI 0, vI x1, vI r2] S2 (oI (fun r3 S3 => (VX11_may_28 d Q n) x0 x1 (iOr x2 (iShl 1 r3)) (x3 + 1) S3)))))))
theorem JX11_may_28 {d : Nat} {S0 : MS} {Q : Out → MS → Prop} : ∀ (n : Nat) (x0 : Nat) (x1 : Int) (x2 : Int) (x3 : Int) (S : MS), VX11_may_28 d Q n x0 x1 x2 x3 S → Jw FinM RX11 cX11_may 4 (some .int) [] yX11_may (d + 1) S0 S 28 [(0, vA x0), (1, vI x1), (2, vI x2), (3, vI x3)] [] Q := by
  intro n
  induction n with
  | zero => intro x0 x1 x2 x3 S h; exact h.elim
  | succ n ih =>
    intro x0 x1 x2 x3 S h
    exact j_iload_n 3 dX11_may_28 rfl (j_aload_n 0 dX11_may_29 rfl (j_getR 11 17 f_RX11_45 dX11_may_30 h (fun b1 h => j_iconst dX11_may_33 (j_iald dX11_may_34 h (fun h => j_icmp_ge (tgt := 61) dX11_may_35 (by decide) h (fun h => j_iload_n 2 dX11_may_61 rfl (j_iret rfl dX11_may_62 h)) (fun h => j_iload_n 2 dX11_may_38 rfl (j_iconst dX11_may_39 (j_aload_n 0 dX11_may_40 rfl (j_iconst dX11_may_41 (j_iload_n 1 dX11_may_42 rfl (j_aload_n 0 dX11_may_43 rfl (j_iconst dX11_may_44 (j_iload_n 3 dX11_may_45 rfl (j_callV (rest := [vI x1, vI 0, vA x0, vI 1, vI x2]) 11 [vI 0, vI x3] k_RX11_247 ⟨w_8_74, p_5_11⟩ ⟨_, _, rfl⟩ (by decide) rfl rfl (Nat.le_of_ble_eq_true rfl) dX11_may_46 h (kI (fun r2 S2 h => j_callV (rest := [vI 1, vI x2]) 11 [vI 0, vI x1, vI r2] k_RX11_234 ⟨w_8_62, p_5_9⟩ ⟨_, _, rfl⟩ (by decide) rfl rfl (Nat.le_of_ble_eq_true rfl) dX11_may_49 h (kI (fun r3 S3 h => j_ishl dX11_may_52 (j_ior dX11_may_53 (j_istore_n (lv2 := [(2, vI (iOr x2 (iShl 1 r3))), (0, vA x0), (1, vI x1), (3, vI x3)]) dX11_may_54 (by decide) rfl (j_iinc 3 (lv2 := [(3, vI (x3 + 1)), (2, vI (iOr x2 (iShl 1 r3))), (0, vA x0), (1, vI x1)]) dX11_may_55 rfl (by decide) rfl (j_goto (tgt := 28) dX11_may_58 (by decide) (j_sub [2, 3, 1, 0] rfl (ih _ _ _ _ _ h)))))))) (fun _ _ h => h.elim))) (fun _ _ h => h.elim)))))))))))))))
def VX11_may_0 (d : Nat) (Q : Out → MS → Prop) (x0 : Nat) (x1 : Int) (S : MS) : Prop :=
  S.K x0 = 11 ∧ ((S.setI x0 0 0).K x0 = 11 ∧ Mw hX11_isNoThree yX11_isNoThree d [vA x0, vI x1] (S.setI x0 0 0) (oI (fun r1 S1 => S1.K x0 = 11 ∧ Mw hX11_throwsIf yX11_throwsIf d [vA x0, vI r1, vI 1] S1 (oI (fun r2 S2 => R32 r2 ∧ ((r2 = 0) → S2.K x0 = 11 ∧ Mw hX11_leaves yX11_leaves d [vA x0] S2 (oV (fun S3 => ∃ m, VX11_may_28 d Q m x0 x1 0 0 S3))) ∧ (¬ (r2 = 0) → Q (.inl (some (vI 0))) S2))))))
theorem JX11_may_0 {d : Nat} {S0 : MS} {Q : Out → MS → Prop} (x0 : Nat) (x1 : Int) (S : MS) (h : VX11_may_0 d Q x0 x1 S) : Jw FinM RX11 cX11_may 4 (some .int) [] yX11_may (d + 1) S0 S 0 [(0, vA x0), (1, vI x1)] [] Q :=
  j_aload_n 0 dX11_may_0 rfl (j_iconst dX11_may_1 (j_putI 11 0 f_RX11_3 dX11_may_2 h (fun h => j_aload_n 0 dX11_may_5 rfl (j_aload_n 0 dX11_may_6 rfl (j_iload_n 1 dX11_may_7 rfl (j_callV (rest := [vA x0]) 11 [vI x1] k_RX11_259 ⟨w_8_90, p_5_13⟩ ⟨_, _, rfl⟩ (by decide) rfl rfl (Nat.le_of_ble_eq_true rfl) dX11_may_8 h (kI (fun r1 S1 h => j_iconst dX11_may_11 (j_callV (rest := []) 11 [vI r1, vI 1] k_RX11_190 ⟨w_7_191, p_4_7⟩ ⟨_, _, rfl⟩ (by decide) rfl rfl (Nat.le_of_ble_eq_true rfl) dX11_may_12 h (kI (fun r2 S2 h => j_if_eq (tgt := 20) dX11_may_15 (by decide) h (fun h => j_aload_n 0 dX11_may_20 rfl (j_callV (rest := []) 11 [] k_RX11_253 ⟨w_8_42, p_5_4⟩ ⟨_, _, rfl⟩ (by decide) rfl rfl (Nat.le_of_ble_eq_true rfl) dX11_may_21 h (kV (fun S3 h => j_iconst dX11_may_24 (j_istore_n (lv2 := [(2, vI 0), (0, vA x0), (1, vI x1)]) dX11_may_25 (by decide) rfl (j_iconst dX11_may_26 (j_istore_n (lv2 := [(3, vI 0), (2, vI 0), (0, vA x0), (1, vI x1)]) dX11_may_27 (by decide) rfl (Exists.elim h (fun m h => j_sub [2, 3, 1, 0] rfl (JX11_may_28 m _ _ _ _ _ h)))))))) (fun _ _ h => h.elim))) (fun h => j_iconst dX11_may_18 (j_iret rfl dX11_may_19 h)))) (fun _ _ h => h.elim)))) (fun _ _ h => h.elim)))))))
theorem MX11_may {d : Nat} {x0 : Nat} {x1 : Int} {S : MS} {Q : Out → MS → Prop} (h : VX11_may_0 d Q x0 x1 S) : Mw hX11_may yX11_may (d + 1) [vA x0, vI x1] S Q := Mw.ofJ (by decide) (Nat.le_of_ble_eq_true rfl) (JX11_may_0 _ _ S h)
theorem dX11_placeOf_0 : decode cX11_placeOf 0 = .ok (.iconst 0, 1) := by decide +kernel
theorem dX11_placeOf_1 : decode cX11_placeOf 1 = .ok (.istore_n 3, 1) := by decide +kernel
theorem dX11_placeOf_2 : decode cX11_placeOf 2 = .ok (.aload_n 0, 1) := by decide +kernel
theorem dX11_placeOf_3 : decode cX11_placeOf 3 = .ok (.iload_n 1, 1) := by decide +kernel
theorem dX11_placeOf_4 : decode cX11_placeOf 4 = .ok (.iload_n 3, 1) := by decide +kernel
theorem dX11_placeOf_5 : decode cX11_placeOf 5 = .ok (.invokevirtual 231, 3) := by decide +kernel
theorem dX11_placeOf_8 : decode cX11_placeOf 8 = .ok (.iload_n 2, 1) := by decide +kernel
theorem dX11_placeOf_9 : decode cX11_placeOf 9 = .ok (.if_icmp .eq 9, 3) := by decide +kernel
theorem dX11_placeOf_12 : decode cX11_placeOf 12 = .ok (.iinc 3 1, 3) := by decide +kernel
theorem dX11_placeOf_15 : decode cX11_placeOf 15 = .ok (.goto (-13), 3) := by decide +kernel
theorem dX11_placeOf_18 : decode cX11_placeOf 18 = .ok (.iload_n 3, 1) := by decide +kernel
theorem dX11_placeOf_19 : decode cX11_placeOf 19 = .ok (.ireturn, 1) := by decide +kernel
def VX11_placeOf_2 (d : Nat) (Q : Out → MS → Prop) : Nat → Nat → Int → Int → Int → MS → Prop
  | 0, _, _, _, _, _ => False
  | n + 1, x0, x1, x2, x3, S => S.K x0 = 11 ∧ Mw hX11_at yX11_at d [vA x0, vI x1, vI x3] S (oI (fun r1 S1 => (R32 r1 ∧ R32 x2) ∧ ((r1 = x2) → Q (.inl (some (vI x3))) S1) ∧ (¬ (r1 = x2) → (VX11_placeOf_2 d Q n) x0 x1 x2 (x3 + 1) S1)))
theorem JX11_placeOf_2 {d : Nat} {S0 : MS} {Q : Out → MS → Prop} : ∀ (n : Nat) (x0 : Nat) (x1 : Int) (x2 : Int) (x3 : Int) (S : MS), VX11_placeOf_2 d Q n x0 x1 x2 x3 S → Jw FinM RX11 cX11_placeOf 4 (some .int) [] yX11_placeOf (d + 1) S0 S 2 [(0, vA x0), (1, vI x1), (2, vI x2), (3, vI x3)] [] Q := by
  intro n
  induction n with
  | zero => intro x0 x1 x2 x3 S h; exact h.elim
  | succ n ih =>
    intro x0 x1 x2 x3 S h
    exact j_aload_n 0 dX11_placeOf_2 rfl (j_iload_n 1 dX11_placeOf_3 rfl (j_iload_n 3 dX11_placeOf_4 rfl (j_callV (rest := []) 11 [vI x1, vI x3] k_RX11_231 ⟨w_8_66, p_5_10⟩ ⟨_, _, rfl⟩ (by decide) rfl rfl (Nat.le_of_ble_eq_true rfl) dX11_placeOf_5 h (kI (fun r1 S1 h => j_iload_n 2 dX11_placeOf_8 rfl (j_icmp_eq (tgt := 18) dX11_placeOf_9 (by decide) h (fun h => j_iload_n 3 dX11_placeOf_18 rfl (j_iret rfl dX11_placeOf_19 h)) (fun h => j_iinc 3 (lv2 := [(3, vI (x3 + 1)), (0, vA x0), (1, vI x1), (2, vI x2)]) dX11_placeOf_12 rfl (by decide) rfl (j_goto (tgt := 2) dX11_placeOf_15 (by decide) (j_sub [1, 2, 3, 0] rfl (ih _ _ _ _ _ h))))))) (fun _ _ h => h.elim))))
def VX11_placeOf_0 (d : Nat) (Q : Out → MS → Prop) (x0 : Nat) (x1 : Int) (x2 : Int) (S : MS) : Prop :=
  ∃ m, VX11_placeOf_2 d Q m x0 x1 x2 0 S
theorem JX11_placeOf_0 {d : Nat} {S0 : MS} {Q : Out → MS → Prop} (x0 : Nat) (x1 : Int) (x2 : Int) (S : MS) (h : VX11_placeOf_0 d Q x0 x1 x2 S) : Jw FinM RX11 cX11_placeOf 4 (some .int) [] yX11_placeOf (d + 1) S0 S 0 [(0, vA x0), (1, vI x1), (2, vI x2)] [] Q :=
  j_iconst dX11_placeOf_0 (j_istore_n (lv2 := [(3, vI 0), (0, vA x0), (1, vI x1), (2, vI x2)]) dX11_placeOf_1 (by decide) rfl (Exists.elim h (fun m h => j_sub [1, 2, 3, 0] rfl (JX11_placeOf_2 m _ _ _ _ _ h))))
theorem MX11_placeOf {d : Nat} {x0 : Nat} {x1 : Int} {x2 : Int} {S : MS} {Q : Out → MS → Prop} (h : VX11_placeOf_0 d Q x0 x1 x2 S) : Mw hX11_placeOf yX11_placeOf (d + 1) [vA x0, vI x1, vI x2] S Q := Mw.ofJ (by decide) (Nat.le_of_ble_eq_true rfl) (JX11_placeOf_0 _ _ _ S h)
theorem dX11_heavierIn_0 : decode cX11_heavierIn 0 = .ok (.iconst 0, 1) := by decide +kernel
theorem dX11_heavierIn_1 : decode cX11_heavierIn 1 = .ok (.istore_n 3, 1) := by decide +kernel
theorem dX11_heavierIn_2 : decode cX11_heavierIn 2 = .ok (.iconst 0, 1) := by decide +kernel
theorem dX11_heavierIn_3 : decode cX11_heavierIn 3 = .ok (.istore 4, 2) := by decide +kernel
theorem dX11_heavierIn_5 : decode cX11_heavierIn 5 = .ok (.iload 4, 2) := by decide +kernel
theorem dX11_heavierIn_7 : decode cX11_heavierIn 7 = .ok (.aload_n 0, 1) := by decide +kernel
theorem dX11_heavierIn_8 : decode cX11_heavierIn 8 = .ok (.getfield 45, 3) := by decide +kernel
theorem dX11_heavierIn_11 : decode cX11_heavierIn 11 = .ok (.iconst 0, 1) := by decide +kernel
theorem dX11_heavierIn_12 : decode cX11_heavierIn 12 = .ok (.iaload, 1) := by decide +kernel
theorem dX11_heavierIn_13 : decode cX11_heavierIn 13 = .ok (.if_icmp .ge 44, 3) := by decide +kernel
theorem dX11_heavierIn_16 : decode cX11_heavierIn 16 = .ok (.iload_n 3, 1) := by decide +kernel
theorem dX11_heavierIn_17 : decode cX11_heavierIn 17 = .ok (.aload_n 0, 1) := by decide +kernel
theorem dX11_heavierIn_18 : decode cX11_heavierIn 18 = .ok (.aload_n 0, 1) := by decide +kernel
theorem dX11_heavierIn_19 : decode cX11_heavierIn 19 = .ok (.iconst 0, 1) := by decide +kernel
theorem dX11_heavierIn_20 : decode cX11_heavierIn 20 = .ok (.iload 4, 2) := by decide +kernel
theorem dX11_heavierIn_22 : decode cX11_heavierIn 22 = .ok (.invokevirtual 247, 3) := by decide +kernel
theorem dX11_heavierIn_25 : decode cX11_heavierIn 25 = .ok (.iload_n 1, 1) := by decide +kernel
theorem dX11_heavierIn_26 : decode cX11_heavierIn 26 = .ok (.invokevirtual 262, 3) := by decide +kernel
theorem dX11_heavierIn_29 : decode cX11_heavierIn 29 = .ok (.aload_n 0, 1) := by decide +kernel
theorem dX11_heavierIn_30 : decode cX11_heavierIn 30 = .ok (.aload_n 0, 1) := by decide +kernel
theorem dX11_heavierIn_31 : decode cX11_heavierIn 31 = .ok (.iconst 0, 1) := by decide +kernel
theorem dX11_heavierIn_32 : decode cX11_heavierIn 32 = .ok (.iload 4, 2) := by decide +kernel
theorem dX11_heavierIn_34 : decode cX11_heavierIn 34 = .ok (.invokevirtual 247, 3) := by decide +kernel
theorem dX11_heavierIn_37 : decode cX11_heavierIn 37 = .ok (.iload_n 2, 1) := by decide +kernel
theorem dX11_heavierIn_38 : decode cX11_heavierIn 38 = .ok (.invokevirtual 262, 3) := by decide +kernel
theorem dX11_heavierIn_41 : decode cX11_heavierIn 41 = .ok (.if_icmp .le 7, 3) := by decide +kernel
theorem dX11_heavierIn_44 : decode cX11_heavierIn 44 = .ok (.iconst 1, 1) := by decide +kernel
theorem dX11_heavierIn_45 : decode cX11_heavierIn 45 = .ok (.goto 4, 3) := by decide +kernel
theorem dX11_heavierIn_48 : decode cX11_heavierIn 48 = .ok (.iconst 0, 1) := by decide +kernel
theorem dX11_heavierIn_49 : decode cX11_heavierIn 49 = .ok (.iadd, 1) := by decide +kernel
theorem dX11_heavierIn_50 : decode cX11_heavierIn 50 = .ok (.istore_n 3, 1) := by decide +kernel
theorem dX11_heavierIn_51 : decode cX11_heavierIn 51 = .ok (.iinc 4 1, 3) := by decide +kernel
theorem dX11_heavierIn_54 : decode cX11_heavierIn 54 = .ok (.goto (-49), 3) := by decide +kernel
theorem dX11_heavierIn_57 : decode cX11_heavierIn 57 = .ok (.iload_n 3, 1) := by decide +kernel
theorem dX11_heavierIn_58 : decode cX11_heavierIn 58 = .ok (.ireturn, 1) := by decide +kernel
def VX11_heavierIn_49 (d : Nat) (c5 : Nat → Int → Int → Int → Int → MS → Prop) (Q : Out → MS → Prop) (x0 : Nat) (x1 : Int) (x2 : Int) (x4 : Int) (t0 : Int) (t1 : Int) (S : MS) : Prop :=
  c5 x0 x1 x2 (t1 + t0) (x4 + 1) S
theorem JX11_heavierIn_49 {d : Nat} {c5 : Nat → Int → Int → Int → Int → MS → Prop} {S0 : MS} {Q : Out → MS → Prop} (hc5 : ∀ (x0 : Nat) (x1 : Int) (x2 : Int) (x3 : Int) (x4 : Int) (S : MS), c5 x0 x1 x2 x3 x4 S → Jw FinM RX11 cX11_heavierIn 5 (some .int) [] yX11_heavierIn (d + 1) S0 S 5 [(0, vA x0), (1, vI x1), (2, vI x2), (3, vI x3), (4, vI x4)] [] Q) (x0 : Nat) (x1 : Int) (x2 : Int) (x4 : Int) (t0 : Int) (t1 : Int) (S : MS) (h : VX11_heavierIn_49 d c5 Q x0 x1 x2 x4 t0 t1 S) : Jw FinM RX11 cX11_heavierIn 5 (some .int) [] yX11_heavierIn (d + 1) S0 S 49 [(0, vA x0), (1, vI x1), (2, vI x2), (4, vI x4)] [vI t0, vI t1] Q :=
  j_iadd dX11_heavierIn_49 (j_istore_n (lv2 := [(3, vI (t1 + t0)), (0, vA x0), (1, vI x1), (2, vI x2), (4, vI x4)]) dX11_heavierIn_50 (by decide) rfl (j_iinc 4 (lv2 := [(4, vI (x4 + 1)), (3, vI (t1 + t0)), (0, vA x0), (1, vI x1), (2, vI x2)]) dX11_heavierIn_51 rfl (by decide) rfl (j_goto (tgt := 5) dX11_heavierIn_54 (by decide) (j_sub [2, 3, 4, 1, 0] rfl (hc5 _ _ _ _ _ _ h)))))
def VX11_heavierIn_5 (d : Nat) (Q : Out → MS → Prop) : Nat → Nat → Int → Int → Int → Int → MS → Prop
  | 0, _, _, _, _, _, _ => False
  | n + 1, x0, x1, x2, x3, x4, S => S.K x0 = 11 ∧ ∃ b1, S.R x0 17 = some b1 ∧ ((S.K b1 = 13 ∧ 0 ≤ (0 : Int) ∧ (0 : Int) < S.N b1) ∧ ((R32 x4 ∧ R32 (S.I b1 ((0 : Int)).toNat)) ∧ (((S.I b1 ((0 : Int)).toNat) ≤ x4) → Q (.inl (some (vI x3))) S) ∧ (¬ ((S.I b1 ((0 : Int)).toNat) ≤ x4) → S.K x0 = 11 ∧ Mw hX11_rowAt yX11_rowAt d [vA x0, vI 0, vI x4] S (oI (fun r2 S2 => S2.K x0 = 11 ∧ Mw hX11_placeOf yX11_placeOf d [vA x0, vI r2, vI x1] S2 (oI (fun r3 S3 => S3.K x0 = 11 ∧ Mw hX11_rowAt yX11_rowAt d [vA x0, vI 0, vI x4] S3 (oI (fun r4 S4 => S4.K x0 = 11 ∧ Mw hX11_placeOf yX11_placeOf d [vA x0, vI r4, vI x2] S4 (oI (fun r5 S5 => (R32 r3 ∧ R32 r5) ∧ ((r3 ≤ r5) → VX11_heavierIn_49 d (VX11_heavierIn_5 d Q n) Q x0 x1 x2 x4 0 x3 S5) ∧ (¬ (r3 ≤ r5) → VX11_heavierIn_49 d (VX11_heavierIn_5 d Q n) Q x0 x1 x2 x4 1 x3 S5))))))))))))
theorem JX11_heavierIn_5 {d : Nat} {S0 : MS} {Q : Out → MS → Prop} : ∀ (n : Nat) (x0 : Nat) (x1 : Int) (x2 : Int) (x3 : Int) (x4 : Int) (S : MS), VX11_heavierIn_5 d Q n x0 x1 x2 x3 x4 S → Jw FinM RX11 cX11_heavierIn 5 (some .int) [] yX11_heavierIn (d + 1) S0 S 5 [(0, vA x0), (1, vI x1), (2, vI x2), (3, vI x3), (4, vI x4)] [] Q := by
  intro n
  induction n with
  | zero => intro x0 x1 x2 x3 x4 S h; exact h.elim
  | succ n ih =>
    intro x0 x1 x2 x3 x4 S h
    exact j_iload 4 dX11_heavierIn_5 rfl (j_aload_n 0 dX11_heavierIn_7 rfl (j_getR 11 17 f_RX11_45 dX11_heavierIn_8 h (fun b1 h => j_iconst dX11_heavierIn_11 (j_iald dX11_heavierIn_12 h (fun h => j_icmp_ge (tgt := 57) dX11_heavierIn_13 (by decide) h (fun h => j_iload_n 3 dX11_heavierIn_57 rfl (j_iret rfl dX11_heavierIn_58 h)) (fun h => j_iload_n 3 dX11_heavierIn_16 rfl (j_aload_n 0 dX11_heavierIn_17 rfl (j_aload_n 0 dX11_heavierIn_18 rfl (j_iconst dX11_heavierIn_19 (j_iload 4 dX11_heavierIn_20 rfl (j_callV (rest := [vA x0, vI x3]) 11 [vI 0, vI x4] k_RX11_247 ⟨w_8_74, p_5_11⟩ ⟨_, _, rfl⟩ (by decide) rfl rfl (Nat.le_of_ble_eq_true rfl) dX11_heavierIn_22 h (kI (fun r2 S2 h => j_iload_n 1 dX11_heavierIn_25 rfl (j_callV (rest := [vI x3]) 11 [vI r2, vI x1] k_RX11_262 ⟨w_8_102, p_5_15⟩ ⟨_, _, rfl⟩ (by decide) rfl rfl (Nat.le_of_ble_eq_true rfl) dX11_heavierIn_26 h (kI (fun r3 S3 h => j_aload_n 0 dX11_heavierIn_29 rfl (j_aload_n 0 dX11_heavierIn_30 rfl (j_iconst dX11_heavierIn_31 (j_iload 4 dX11_heavierIn_32 rfl (j_callV (rest := [vA x0, vI r3, vI x3]) 11 [vI 0, vI x4] k_RX11_247 ⟨w_8_74, p_5_11⟩ ⟨_, _, rfl⟩ (by decide) rfl rfl (Nat.le_of_ble_eq_true rfl) dX11_heavierIn_34 h (kI (fun r4 S4 h => j_iload_n 2 dX11_heavierIn_37 rfl (j_callV (rest := [vI r3, vI x3]) 11 [vI r4, vI x2] k_RX11_262 ⟨w_8_102, p_5_15⟩ ⟨_, _, rfl⟩ (by decide) rfl rfl (Nat.le_of_ble_eq_true rfl) dX11_heavierIn_38 h (kI (fun r5 S5 h => j_icmp_le (tgt := 48) dX11_heavierIn_41 (by decide) h (fun h => j_iconst dX11_heavierIn_48 (j_sub [0, 1, 2, 4] rfl (JX11_heavierIn_49 ih _ _ _ _ _ _ _ h))) (fun h => j_iconst dX11_heavierIn_44 (j_goto (tgt := 49) dX11_heavierIn_45 (by decide) (j_sub [0, 1, 2, 4] rfl (JX11_heavierIn_49 ih _ _ _ _ _ _ _ h)))))) (fun _ _ h => h.elim)))) (fun _ _ h => h.elim))))))) (fun _ _ h => h.elim)))) (fun _ _ h => h.elim))))))))))))
def VX11_heavierIn_0 (d : Nat) (Q : Out → MS → Prop) (x0 : Nat) (x1 : Int) (x2 : Int) (S : MS) : Prop :=
  ∃ m, VX11_heavierIn_5 d Q m x0 x1 x2 0 0 S
theorem JX11_heavierIn_0 {d : Nat} {S0 : MS} {Q : Out → MS → Prop} (x0 : Nat) (x1 : Int) (x2 : Int) (S : MS) (h : VX11_heavierIn_0 d Q x0 x1 x2 S) : Jw FinM RX11 cX11_heavierIn 5 (some .int) [] yX11_heavierIn (d + 1) S0 S 0 [(0, vA x0), (1, vI x1), (2, vI x2)] [] Q :=
  j_iconst dX11_heavierIn_0 (j_istore_n (lv2 := [(3, vI 0), (0, vA x0), (1, vI x1), (2, vI x2)]) dX11_heavierIn_1 (by decide) rfl (j_iconst dX11_heavierIn_2 (j_istore (lv2 := [(4, vI 0), (3, vI 0), (0, vA x0), (1, vI x1), (2, vI x2)]) dX11_heavierIn_3 (by decide) rfl (Exists.elim h (fun m h => j_sub [2, 3, 4, 1, 0] rfl (JX11_heavierIn_5 m _ _ _ _ _ _ h))))))
theorem MX11_heavierIn {d : Nat} {x0 : Nat} {x1 : Int} {x2 : Int} {S : MS} {Q : Out → MS → Prop} (h : VX11_heavierIn_0 d Q x0 x1 x2 S) : Mw hX11_heavierIn yX11_heavierIn (d + 1) [vA x0, vI x1, vI x2] S Q := Mw.ofJ (by decide) (Nat.le_of_ble_eq_true rfl) (JX11_heavierIn_0 _ _ _ S h)
theorem dX11_heavier_0 : decode cX11_heavier 0 = .ok (.aload_n 0, 1) := by decide +kernel
theorem dX11_heavier_1 : decode cX11_heavier 1 = .ok (.iconst 0, 1) := by decide +kernel
theorem dX11_heavier_2 : decode cX11_heavier 2 = .ok (.putfield 3, 3) := by decide +kernel
theorem dX11_heavier_5 : decode cX11_heavier 5 = .ok (.aload_n 0, 1) := by decide +kernel
theorem dX11_heavier_6 : decode cX11_heavier 6 = .ok (.aload_n 0, 1) := by decide +kernel
theorem dX11_heavier_7 : decode cX11_heavier 7 = .ok (.iload_n 1, 1) := by decide +kernel
theorem dX11_heavier_8 : decode cX11_heavier 8 = .ok (.invokevirtual 194, 3) := by decide +kernel
theorem dX11_heavier_11 : decode cX11_heavier 11 = .ok (.ifCond .ne 11, 3) := by decide +kernel
theorem dX11_heavier_14 : decode cX11_heavier 14 = .ok (.aload_n 0, 1) := by decide +kernel
theorem dX11_heavier_15 : decode cX11_heavier 15 = .ok (.iload_n 2, 1) := by decide +kernel
theorem dX11_heavier_16 : decode cX11_heavier 16 = .ok (.invokevirtual 194, 3) := by decide +kernel
theorem dX11_heavier_19 : decode cX11_heavier 19 = .ok (.ifCond .eq 7, 3) := by decide +kernel
theorem dX11_heavier_22 : decode cX11_heavier 22 = .ok (.iconst 1, 1) := by decide +kernel
theorem dX11_heavier_23 : decode cX11_heavier 23 = .ok (.goto 4, 3) := by decide +kernel
theorem dX11_heavier_26 : decode cX11_heavier 26 = .ok (.iconst 0, 1) := by decide +kernel
theorem dX11_heavier_27 : decode cX11_heavier 27 = .ok (.iconst 1, 1) := by decide +kernel
theorem dX11_heavier_28 : decode cX11_heavier 28 = .ok (.invokevirtual 190, 3) := by decide +kernel
theorem dX11_heavier_31 : decode cX11_heavier 31 = .ok (.ifCond .ne 21, 3) := by decide +kernel
theorem dX11_heavier_34 : decode cX11_heavier 34 = .ok (.aload_n 0, 1) := by decide +kernel
theorem dX11_heavier_35 : decode cX11_heavier 35 = .ok (.iload_n 1, 1) := by decide +kernel
theorem dX11_heavier_36 : decode cX11_heavier 36 = .ok (.iload_n 2, 1) := by decide +kernel
theorem dX11_heavier_37 : decode cX11_heavier 37 = .ok (.if_icmp .ne 7, 3) := by decide +kernel
theorem dX11_heavier_40 : decode cX11_heavier 40 = .ok (.iconst 1, 1) := by decide +kernel
theorem dX11_heavier_41 : decode cX11_heavier 41 = .ok (.goto 4, 3) := by decide +kernel
theorem dX11_heavier_44 : decode cX11_heavier 44 = .ok (.iconst 0, 1) := by decide +kernel
theorem dX11_heavier_45 : decode cX11_heavier 45 = .ok (.iconst 2, 1) := by decide +kernel
theorem dX11_heavier_46 : decode cX11_heavier 46 = .ok (.invokevirtual 190, 3) := by decide +kernel
theorem dX11_heavier_49 : decode cX11_heavier 49 = .ok (.ifCond .eq 5, 3) := by decide +kernel
theorem dX11_heavier_52 : decode cX11_heavier 52 = .ok (.iconst 0, 1) := by decide +kernel
theorem dX11_heavier_53 : decode cX11_heavier 53 = .ok (.ireturn, 1) := by decide +kernel
theorem dX11_heavier_54 : decode cX11_heavier 54 = .ok (.aload_n 0, 1) := by decide +kernel
theorem dX11_heavier_55 : decode cX11_heavier 55 = .ok (.invokevirtual 253, 3) := by decide +kernel
theorem dX11_heavier_58 : decode cX11_heavier 58 = .ok (.aload_n 0, 1) := by decide +kernel
theorem dX11_heavier_59 : decode cX11_heavier 59 = .ok (.iload_n 1, 1) := by decide +kernel
theorem dX11_heavier_60 : decode cX11_heavier 60 = .ok (.iload_n 2, 1) := by decide +kernel
theorem dX11_heavier_61 : decode cX11_heavier 61 = .ok (.invokevirtual 265, 3) := by decide +kernel
theorem dX11_heavier_64 : decode cX11_heavier 64 = .ok (.istore_n 3, 1) := by decide +kernel
theorem dX11_heavier_65 : decode cX11_heavier 65 = .ok (.aload_n 0, 1) := by decide +kernel
theorem dX11_heavier_66 : decode cX11_heavier 66 = .ok (.getfield 45, 3) := by decide +kernel
theorem dX11_heavier_69 : decode cX11_heavier 69 = .ok (.iconst 0, 1) := by decide +kernel
theorem dX11_heavier_70 : decode cX11_heavier 70 = .ok (.iaload, 1) := by decide +kernel
theorem dX11_heavier_71 : decode cX11_heavier 71 = .ok (.ifCond .ne 7, 3) := by decide +kernel
theorem dX11_heavier_74 : decode cX11_heavier 74 = .ok (.iconst (-1), 1) := by decide +kernel
theorem dX11_heavier_75 : decode cX11_heavier 75 = .ok (.goto 26, 3) := by decide +kernel
theorem dX11_heavier_78 : decode cX11_heavier 78 = .ok (.iload_n 3, 1) := by decide +kernel
theorem dX11_heavier_79 : decode cX11_heavier 79 = .ok (.aload_n 0, 1) := by decide +kernel
theorem dX11_heavier_80 : decode cX11_heavier 80 = .ok (.getfield 45, 3) := by decide +kernel
theorem dX11_heavier_83 : decode cX11_heavier 83 = .ok (.iconst 0, 1) := by decide +kernel
theorem dX11_heavier_84 : decode cX11_heavier 84 = .ok (.iaload, 1) := by decide +kernel
theorem dX11_heavier_85 : decode cX11_heavier 85 = .ok (.if_icmp .ne 7, 3) := by decide +kernel
theorem dX11_heavier_88 : decode cX11_heavier 88 = .ok (.iconst 1, 1) := by decide +kernel
theorem dX11_heavier_89 : decode cX11_heavier 89 = .ok (.goto 12, 3) := by decide +kernel
theorem dX11_heavier_92 : decode cX11_heavier 92 = .ok (.iload_n 3, 1) := by decide +kernel
theorem dX11_heavier_93 : decode cX11_heavier 93 = .ok (.ifCond .ne 7, 3) := by decide +kernel
theorem dX11_heavier_96 : decode cX11_heavier 96 = .ok (.iconst 0, 1) := by decide +kernel
theorem dX11_heavier_97 : decode cX11_heavier 97 = .ok (.goto 4, 3) := by decide +kernel
theorem dX11_heavier_100 : decode cX11_heavier 100 = .ok (.iconst (-1), 1) := by decide +kernel
theorem dX11_heavier_101 : decode cX11_heavier 101 = .ok (.ireturn, 1) := by decide +kernel
def VX11_heavier_45 (d : Nat) (Q : Out → MS → Prop) (x0 : Nat) (x1 : Int) (x2 : Int) (t0 : Int) (t1 : Nat) (S : MS) : Prop :=
  S.K t1 = 11 ∧ Mw hX11_throwsIf yX11_throwsIf d [vA t1, vI t0, vI 2] S (oI (fun r1 S1 => R32 r1 ∧ ((r1 = 0) → S1.K x0 = 11 ∧ Mw hX11_leaves yX11_leaves d [vA x0] S1 (oV (fun S2 => S2.K x0 = 11 ∧ Mw hX11_heavierIn yX11_heavierIn d [vA x0, vI x1, vI x2] S2 (oI (fun r3 S3 => S3.K x0 = 11 ∧ ∃ b4, S3.R x0 17 = some b4 ∧ ((S3.K b4 = 13 ∧ 0 ≤ (0 : Int) ∧ (0 : Int) < S3.N b4) ∧ (R32 (S3.I b4 ((0 : Int)).toNat) ∧ (¬ ((S3.I b4 ((0 : Int)).toNat) = 0) → S3.K x0 = 11 ∧ ∃ b5, S3.R x0 17 = some b5 ∧ ((S3.K b5 = 13 ∧ 0 ≤ (0 : Int) ∧ (0 : Int) < S3.N b5) ∧ ((R32 r3 ∧ R32 (S3.I b5 ((0 : Int)).toNat)) ∧ (¬ (r3 = (S3.I b5 ((0 : Int)).toNat)) → R32 r3 ∧ (¬ (r3 = 0) → Q (.inl (some (vI ((-1))))) S3) ∧ ((r3 = 0) → Q (.inl (some (vI 0))) S3)) ∧ ((r3 = (S3.I b5 ((0 : Int)).toNat)) → Q (.inl (some (vI 1))) S3)))) ∧ (((S3.I b4 ((0 : Int)).toNat) = 0) → Q (.inl (some (vI ((-1))))) S3)))))))) ∧ (¬ (r1 = 0) → Q (.inl (some (vI 0))) S1)))
theorem JX11_heavier_45 {d : Nat} {S0 : MS} {Q : Out → MS → Prop} (x0 : Nat) (x1 : Int) (x2 : Int) (t0 : Int) (t1 : Nat) (S : MS) (h : VX11_heavier_45 d Q x0 x1 x2 t0 t1 S) : Jw FinM RX11 cX11_heavier 4 (some .int) [] yX11_heavier (d + 1) S0 S 45 [(0, vA x0), (1, vI x1), (2, vI x2)] [vI t0, vA t1] Q :=
  j_iconst dX11_heavier_45 (j_callV (rest := []) 11 [vI t0, vI 2] k_RX11_190 ⟨w_7_191, p_4_7⟩ ⟨_, _, rfl⟩ (by decide) rfl rfl (Nat.le_of_ble_eq_true rfl) dX11_heavier_46 h (kI (fun r1 S1 h => j_if_eq (tgt := 54) dX11_heavier_49 (by decide) h (fun h => j_aload_n 0 dX11_heavier_54 rfl (j_callV (rest := []) 11 [] k_RX11_253 ⟨w_8_42, p_5_4⟩ ⟨_, _, rfl⟩ (by decide) rfl rfl (Nat.le_of_ble_eq_true rfl) dX11_heavier_55 h (kV (fun S2 h => j_aload_n 0 dX11_heavier_58 rfl (j_iload_n 1 dX11_heavier_59 rfl (j_iload_n 2 dX11_heavier_60 rfl (j_callV (rest := []) 11 [vI x1, vI x2] k_RX11_265 ⟨w_8_98, p_5_14⟩ ⟨_, _, rfl⟩ (by decide) rfl rfl (Nat.le_of_ble_eq_true rfl) dX11_heavier_61 h (kI (fun r3 S3 h => j_istore_n (lv2 := [(3, vI r3), (0, vA x0), (1, vI x1), (2, vI x2)]) dX11_heavier_64 (by decide) rfl (j_aload_n 1 dX11_heavier_65 rfl (j_getR 11 17 f_RX11_45 dX11_heavier_66 h (fun b4 h => j_iconst dX11_heavier_69 (j_iald dX11_heavier_70 h (fun h => j_if_ne (tgt := 78) dX11_heavier_71 (by decide) h (fun h => j_iload_n 0 dX11_heavier_78 rfl (j_aload_n 1 dX11_heavier_79 rfl (j_getR 11 17 f_RX11_45 dX11_heavier_80 h (fun b5 h => j_iconst dX11_heavier_83 (j_iald dX11_heavier_84 h (fun h => j_icmp_ne (tgt := 92) dX11_heavier_85 (by decide) h (fun h => j_iload_n 0 dX11_heavier_92 rfl (j_if_ne (tgt := 100) dX11_heavier_93 (by decide) h (fun h => j_iconst dX11_heavier_100 (j_iret rfl dX11_heavier_101 h)) (fun h => j_iconst dX11_heavier_96 (j_goto (tgt := 101) dX11_heavier_97 (by decide) (j_iret rfl dX11_heavier_101 h))))) (fun h => j_iconst dX11_heavier_88 (j_goto (tgt := 101) dX11_heavier_89 (by decide) (j_iret rfl dX11_heavier_101 h))))))))) (fun h => j_iconst dX11_heavier_74 (j_goto (tgt := 101) dX11_heavier_75 (by decide) (j_iret rfl dX11_heavier_101 h)))))))))) (fun _ _ h => h.elim)))))) (fun _ _ h => h.elim))) (fun h => j_iconst dX11_heavier_52 (j_iret rfl dX11_heavier_53 h)))) (fun _ _ h => h.elim))
def VX11_heavier_27 (d : Nat) (Q : Out → MS → Prop) (x0 : Nat) (x1 : Int) (x2 : Int) (t0 : Int) (t1 : Nat) (S : MS) : Prop :=
  S.K t1 = 11 ∧ Mw hX11_throwsIf yX11_throwsIf d [vA t1, vI t0, vI 1] S (oI (fun r1 S1 => R32 r1 ∧ (¬ (r1 = 0) → Q (.inl (some (vI 0))) S1) ∧ ((r1 = 0) → (R32 x1 ∧ R32 x2) ∧ (¬ (x1 = x2) → VX11_heavier_45 d Q x0 x1 x2 0 x0 S1) ∧ ((x1 = x2) → VX11_heavier_45 d Q x0 x1 x2 1 x0 S1))))
theorem JX11_heavier_27 {d : Nat} {S0 : MS} {Q : Out → MS → Prop} (x0 : Nat) (x1 : Int) (x2 : Int) (t0 : Int) (t1 : Nat) (S : MS) (h : VX11_heavier_27 d Q x0 x1 x2 t0 t1 S) : Jw FinM RX11 cX11_heavier 4 (some .int) [] yX11_heavier (d + 1) S0 S 27 [(0, vA x0), (1, vI x1), (2, vI x2)] [vI t0, vA t1] Q :=
  j_iconst dX11_heavier_27 (j_callV (rest := []) 11 [vI t0, vI 1] k_RX11_190 ⟨w_7_191, p_4_7⟩ ⟨_, _, rfl⟩ (by decide) rfl rfl (Nat.le_of_ble_eq_true rfl) dX11_heavier_28 h (kI (fun r1 S1 h => j_if_ne (tgt := 52) dX11_heavier_31 (by decide) h (fun h => j_iconst dX11_heavier_52 (j_iret rfl dX11_heavier_53 h)) (fun h => j_aload_n 0 dX11_heavier_34 rfl (j_iload_n 1 dX11_heavier_35 rfl (j_iload_n 2 dX11_heavier_36 rfl (j_icmp_ne (tgt := 44) dX11_heavier_37 (by decide) h (fun h => j_iconst dX11_heavier_44 (JX11_heavier_45 _ _ _ _ _ _ h)) (fun h => j_iconst dX11_heavier_40 (j_goto (tgt := 45) dX11_heavier_41 (by decide) (JX11_heavier_45 _ _ _ _ _ _ h))))))))) (fun _ _ h => h.elim))
def VX11_heavier_22 (d : Nat) (Q : Out → MS → Prop) (x0 : Nat) (x1 : Int) (x2 : Int) (t0 : Nat) (S : MS) : Prop :=
  VX11_heavier_27 d Q x0 x1 x2 1 t0 S
theorem JX11_heavier_22 {d : Nat} {S0 : MS} {Q : Out → MS → Prop} (x0 : Nat) (x1 : Int) (x2 : Int) (t0 : Nat) (S : MS) (h : VX11_heavier_22 d Q x0 x1 x2 t0 S) : Jw FinM RX11 cX11_heavier 4 (some .int) [] yX11_heavier (d + 1) S0 S 22 [(0, vA x0), (1, vI x1), (2, vI x2)] [vA t0] Q :=
  j_iconst dX11_heavier_22 (j_goto (tgt := 27) dX11_heavier_23 (by decide) (JX11_heavier_27 _ _ _ _ _ _ h))
def VX11_heavier_0 (d : Nat) (Q : Out → MS → Prop) (x0 : Nat) (x1 : Int) (x2 : Int) (S : MS) : Prop :=
  S.K x0 = 11 ∧ ((S.setI x0 0 0).K x0 = 11 ∧ Mw hX11_noThing yX11_noThing d [vA x0, vI x1] (S.setI x0 0 0) (oI (fun r1 S1 => R32 r1 ∧ (¬ (r1 = 0) → VX11_heavier_22 d Q x0 x1 x2 x0 S1) ∧ ((r1 = 0) → S1.K x0 = 11 ∧ Mw hX11_noThing yX11_noThing d [vA x0, vI x2] S1 (oI (fun r2 S2 => R32 r2 ∧ ((r2 = 0) → VX11_heavier_27 d Q x0 x1 x2 0 x0 S2) ∧ (¬ (r2 = 0) → VX11_heavier_22 d Q x0 x1 x2 x0 S2)))))))
theorem JX11_heavier_0 {d : Nat} {S0 : MS} {Q : Out → MS → Prop} (x0 : Nat) (x1 : Int) (x2 : Int) (S : MS) (h : VX11_heavier_0 d Q x0 x1 x2 S) : Jw FinM RX11 cX11_heavier 4 (some .int) [] yX11_heavier (d + 1) S0 S 0 [(0, vA x0), (1, vI x1), (2, vI x2)] [] Q :=
  j_aload_n 0 dX11_heavier_0 rfl (j_iconst dX11_heavier_1 (j_putI 11 0 f_RX11_3 dX11_heavier_2 h (fun h => j_aload_n 0 dX11_heavier_5 rfl (j_aload_n 0 dX11_heavier_6 rfl (j_iload_n 1 dX11_heavier_7 rfl (j_callV (rest := [vA x0]) 11 [vI x1] k_RX11_194 ⟨w_7_214, p_4_9⟩ ⟨_, _, rfl⟩ (by decide) rfl rfl (Nat.le_of_ble_eq_true rfl) dX11_heavier_8 h (kI (fun r1 S1 h => j_if_ne (tgt := 22) dX11_heavier_11 (by decide) h (fun h => JX11_heavier_22 _ _ _ _ _ h) (fun h => j_aload_n 0 dX11_heavier_14 rfl (j_iload_n 2 dX11_heavier_15 rfl (j_callV (rest := [vA x0]) 11 [vI x2] k_RX11_194 ⟨w_7_214, p_4_9⟩ ⟨_, _, rfl⟩ (by decide) rfl rfl (Nat.le_of_ble_eq_true rfl) dX11_heavier_16 h (kI (fun r2 S2 h => j_if_eq (tgt := 26) dX11_heavier_19 (by decide) h (fun h => j_iconst dX11_heavier_26 (JX11_heavier_27 _ _ _ _ _ _ h)) (fun h => JX11_heavier_22 _ _ _ _ _ h))) (fun _ _ h => h.elim)))))) (fun _ _ h => h.elim)))))))
theorem MX11_heavier {d : Nat} {x0 : Nat} {x1 : Int} {x2 : Int} {S : MS} {Q : Out → MS → Prop} (h : VX11_heavier_0 d Q x0 x1 x2 S) : Mw hX11_heavier yX11_heavier (d + 1) [vA x0, vI x1, vI x2] S Q := Mw.ofJ (by decide) (Nat.le_of_ble_eq_true rfl) (JX11_heavier_0 _ _ _ S h)
